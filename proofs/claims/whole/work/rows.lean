section
-- ===== PART A: goes FIRST, ahead of the names: the tables' words, and 'selects' of the private methods out of them =====
/-- a private method of a class that the tables say can be made, by its rows of tables_1 -/
def lw_okq (q : MethodName × Nat) : Prop := (q.1.cls ≠ "java/lang/invoke/MethodHandle" ∧ q.1.cls ≠ "java/lang/invoke/VarHandle") ∧ Cond.instantiable q.1.cls q.2 ∈ tables_1 ∧ Cond.privateMethod q.1 ∈ tables_1 ∧ Cond.instanceMethod q.1 ∈ tables_1
theorem lw_p0 : lw_okq (⟨"WornDots$CommandText", "skipSpaces", "()V"⟩, 6) := ⟨⟨by decide +kernel, by decide +kernel⟩, List.mem_of_getElem? (i := 33) (by decide +kernel), List.mem_of_getElem? (i := 246) (by decide +kernel), List.mem_of_getElem? (i := 247) (by decide +kernel)⟩
theorem lw_p1 : lw_okq (⟨"WornDots$CommandText", "skipLetters", "()V"⟩, 6) := ⟨⟨by decide +kernel, by decide +kernel⟩, List.mem_of_getElem? (i := 33) (by decide +kernel), List.mem_of_getElem? (i := 250) (by decide +kernel), List.mem_of_getElem? (i := 251) (by decide +kernel)⟩
theorem lw_p2 : lw_okq (⟨"WornDots$CommandText", "wordBetween", "(II)LWornDots$Word;"⟩, 6) := ⟨⟨by decide +kernel, by decide +kernel⟩, List.mem_of_getElem? (i := 33) (by decide +kernel), List.mem_of_getElem? (i := 254) (by decide +kernel), List.mem_of_getElem? (i := 255) (by decide +kernel)⟩
theorem lw_p3 : lw_okq (⟨"WornDots$CommandText", "isBetween", "(Ljava/lang/String;II)Z"⟩, 6) := ⟨⟨by decide +kernel, by decide +kernel⟩, List.mem_of_getElem? (i := 33) (by decide +kernel), List.mem_of_getElem? (i := 260) (by decide +kernel), List.mem_of_getElem? (i := 261) (by decide +kernel)⟩
theorem lw_p4 : lw_okq (⟨"WornDots$CommandText", "readNumbers", "(I)Z"⟩, 6) := ⟨⟨by decide +kernel, by decide +kernel⟩, List.mem_of_getElem? (i := 33) (by decide +kernel), List.mem_of_getElem? (i := 312) (by decide +kernel), List.mem_of_getElem? (i := 313) (by decide +kernel)⟩
theorem lw_p5 : lw_okq (⟨"WornDots$CommandText", "readNumber", "(I)Z"⟩, 6) := ⟨⟨by decide +kernel, by decide +kernel⟩, List.mem_of_getElem? (i := 33) (by decide +kernel), List.mem_of_getElem? (i := 316) (by decide +kernel), List.mem_of_getElem? (i := 317) (by decide +kernel)⟩
theorem lw_p6 : lw_okq (⟨"WornDots$CommandText", "readSemicolon", "()Z"⟩, 6) := ⟨⟨by decide +kernel, by decide +kernel⟩, List.mem_of_getElem? (i := 33) (by decide +kernel), List.mem_of_getElem? (i := 320) (by decide +kernel), List.mem_of_getElem? (i := 321) (by decide +kernel)⟩
theorem lw_p7 : lw_okq (⟨"WornDots", "save", "()V"⟩, 4) := ⟨⟨by decide +kernel, by decide +kernel⟩, List.mem_of_getElem? (i := 25) (by decide +kernel), List.mem_of_getElem? (i := 324) (by decide +kernel), List.mem_of_getElem? (i := 325) (by decide +kernel)⟩
theorem lw_p8 : lw_okq (⟨"WornDots$State", "othersRentOneOf", "(III)Z"⟩, 8) := ⟨⟨by decide +kernel, by decide +kernel⟩, List.mem_of_getElem? (i := 94) (by decide +kernel), List.mem_of_getElem? (i := 396) (by decide +kernel), List.mem_of_getElem? (i := 397) (by decide +kernel)⟩
theorem lw_p9 : lw_okq (⟨"WornDots$Head", "burn", "(II)V"⟩, 5) := ⟨⟨by decide +kernel, by decide +kernel⟩, List.mem_of_getElem? (i := 67) (by decide +kernel), List.mem_of_getElem? (i := 454) (by decide +kernel), List.mem_of_getElem? (i := 455) (by decide +kernel)⟩
theorem lw_p10 : lw_okq (⟨"WornDots$State", "allWear", "()I"⟩, 8) := ⟨⟨by decide +kernel, by decide +kernel⟩, List.mem_of_getElem? (i := 94) (by decide +kernel), List.mem_of_getElem? (i := 501) (by decide +kernel), List.mem_of_getElem? (i := 502) (by decide +kernel)⟩
theorem lw_p11 : lw_okq (⟨"WornDots$State", "allRented", "()I"⟩, 8) := ⟨⟨by decide +kernel, by decide +kernel⟩, List.mem_of_getElem? (i := 94) (by decide +kernel), List.mem_of_getElem? (i := 533) (by decide +kernel), List.mem_of_getElem? (i := 534) (by decide +kernel)⟩
theorem lw_p12 : lw_okq (⟨"WornDots$State", "book", "(LWornDots$Customer;LWornDots$Label;IZ)V"⟩, 8) := ⟨⟨by decide +kernel, by decide +kernel⟩, List.mem_of_getElem? (i := 94) (by decide +kernel), List.mem_of_getElem? (i := 545) (by decide +kernel), List.mem_of_getElem? (i := 546) (by decide +kernel)⟩
theorem lw_p13 : lw_okq (⟨"java/lang/Throwable", "fillInStackTrace", "(I)Ljava/lang/Throwable;"⟩, 6) := ⟨⟨by decide +kernel, by decide +kernel⟩, List.mem_of_getElem? (i := 625) (by decide +kernel), List.mem_of_getElem? (i := 623) (by decide +kernel), List.mem_of_getElem? (i := 624) (by decide +kernel)⟩
theorem lw_p14 : lw_okq (⟨"WornDots$State", "allPrinted", "()I"⟩, 8) := ⟨⟨by decide +kernel, by decide +kernel⟩, List.mem_of_getElem? (i := 94) (by decide +kernel), List.mem_of_getElem? (i := 691) (by decide +kernel), List.mem_of_getElem? (i := 692) (by decide +kernel)⟩
theorem lw_p15 : lw_okq (⟨"WornDots$State", "allFailed", "()I"⟩, 8) := ⟨⟨by decide +kernel, by decide +kernel⟩, List.mem_of_getElem? (i := 94) (by decide +kernel), List.mem_of_getElem? (i := 695) (by decide +kernel), List.mem_of_getElem? (i := 696) (by decide +kernel)⟩
def lw_privs_1 : List (MethodName × Nat) := [(⟨"WornDots$CommandText", "skipSpaces", "()V"⟩, 6), (⟨"WornDots$CommandText", "skipLetters", "()V"⟩, 6), (⟨"WornDots$CommandText", "wordBetween", "(II)LWornDots$Word;"⟩, 6), (⟨"WornDots$CommandText", "isBetween", "(Ljava/lang/String;II)Z"⟩, 6), (⟨"WornDots$CommandText", "readNumbers", "(I)Z"⟩, 6), (⟨"WornDots$CommandText", "readNumber", "(I)Z"⟩, 6), (⟨"WornDots$CommandText", "readSemicolon", "()Z"⟩, 6), (⟨"WornDots", "save", "()V"⟩, 4), (⟨"WornDots$State", "othersRentOneOf", "(III)Z"⟩, 8), (⟨"WornDots$Head", "burn", "(II)V"⟩, 5), (⟨"WornDots$State", "allWear", "()I"⟩, 8), (⟨"WornDots$State", "allRented", "()I"⟩, 8), (⟨"WornDots$State", "book", "(LWornDots$Customer;LWornDots$Label;IZ)V"⟩, 8), (⟨"java/lang/Throwable", "fillInStackTrace", "(I)Ljava/lang/Throwable;"⟩, 6), (⟨"WornDots$State", "allPrinted", "()I"⟩, 8), (⟨"WornDots$State", "allFailed", "()I"⟩, 8)]
theorem lw_r1 : ∀ q ∈ lw_privs_1, lw_okq q := List.forall_mem_cons.mpr ⟨lw_p0, List.forall_mem_cons.mpr ⟨lw_p1, List.forall_mem_cons.mpr ⟨lw_p2, List.forall_mem_cons.mpr ⟨lw_p3, List.forall_mem_cons.mpr ⟨lw_p4, List.forall_mem_cons.mpr ⟨lw_p5, List.forall_mem_cons.mpr ⟨lw_p6, List.forall_mem_cons.mpr ⟨lw_p7, List.forall_mem_cons.mpr ⟨lw_p8, List.forall_mem_cons.mpr ⟨lw_p9, List.forall_mem_cons.mpr ⟨lw_p10, List.forall_mem_cons.mpr ⟨lw_p11, List.forall_mem_cons.mpr ⟨lw_p12, List.forall_mem_cons.mpr ⟨lw_p13, List.forall_mem_cons.mpr ⟨lw_p14, List.forall_mem_cons.mpr ⟨lw_p15, fun _ h => absurd h List.not_mem_nil⟩⟩⟩⟩⟩⟩⟩⟩⟩⟩⟩⟩⟩⟩⟩⟩
theorem lw_p16 : lw_okq (⟨"WornDots$State", "allEarned", "()I"⟩, 8) := ⟨⟨by decide +kernel, by decide +kernel⟩, List.mem_of_getElem? (i := 94) (by decide +kernel), List.mem_of_getElem? (i := 699) (by decide +kernel), List.mem_of_getElem? (i := 700) (by decide +kernel)⟩
theorem lw_p17 : lw_okq (⟨"WornDots", "mixDots", "(J)J"⟩, 4) := ⟨⟨by decide +kernel, by decide +kernel⟩, List.mem_of_getElem? (i := 25) (by decide +kernel), List.mem_of_getElem? (i := 703) (by decide +kernel), List.mem_of_getElem? (i := 704) (by decide +kernel)⟩
theorem lw_p18 : lw_okq (⟨"WornDots$State", "renterOf", "(I)I"⟩, 8) := ⟨⟨by decide +kernel, by decide +kernel⟩, List.mem_of_getElem? (i := 94) (by decide +kernel), List.mem_of_getElem? (i := 711) (by decide +kernel), List.mem_of_getElem? (i := 712) (by decide +kernel)⟩
theorem lw_p19 : lw_okq (⟨"WornDots", "mixLabels", "(J)J"⟩, 4) := ⟨⟨by decide +kernel, by decide +kernel⟩, List.mem_of_getElem? (i := 25) (by decide +kernel), List.mem_of_getElem? (i := 716) (by decide +kernel), List.mem_of_getElem? (i := 717) (by decide +kernel)⟩
theorem lw_p20 : lw_okq (⟨"WornDots", "mixCustomers", "(J)J"⟩, 4) := ⟨⟨by decide +kernel, by decide +kernel⟩, List.mem_of_getElem? (i := 25) (by decide +kernel), List.mem_of_getElem? (i := 730) (by decide +kernel), List.mem_of_getElem? (i := 731) (by decide +kernel)⟩
theorem lw_p21 : lw_okq (⟨"WornDotsModel", "throwsAt", "(I)Z"⟩, 11) := ⟨⟨by decide +kernel, by decide +kernel⟩, List.mem_of_getElem? (i := 958) (by decide +kernel), List.mem_of_getElem? (i := 1009) (by decide +kernel), List.mem_of_getElem? (i := 1010) (by decide +kernel)⟩
theorem lw_p22 : lw_okq (⟨"WornDotsModel", "saves", "()V"⟩, 11) := ⟨⟨by decide +kernel, by decide +kernel⟩, List.mem_of_getElem? (i := 958) (by decide +kernel), List.mem_of_getElem? (i := 1013) (by decide +kernel), List.mem_of_getElem? (i := 1014) (by decide +kernel)⟩
theorem lw_p23 : lw_okq (⟨"WornDotsModel", "sumOf", "(I)I"⟩, 11) := ⟨⟨by decide +kernel, by decide +kernel⟩, List.mem_of_getElem? (i := 958) (by decide +kernel), List.mem_of_getElem? (i := 1017) (by decide +kernel), List.mem_of_getElem? (i := 1018) (by decide +kernel)⟩
theorem lw_p24 : lw_okq (⟨"WornDotsModel", "frees", "(I)V"⟩, 11) := ⟨⟨by decide +kernel, by decide +kernel⟩, List.mem_of_getElem? (i := 958) (by decide +kernel), List.mem_of_getElem? (i := 1024) (by decide +kernel), List.mem_of_getElem? (i := 1025) (by decide +kernel)⟩
theorem lw_p25 : lw_okq (⟨"WornDotsModel", "isLabel", "(I)Z"⟩, 11) := ⟨⟨by decide +kernel, by decide +kernel⟩, List.mem_of_getElem? (i := 958) (by decide +kernel), List.mem_of_getElem? (i := 1046) (by decide +kernel), List.mem_of_getElem? (i := 1047) (by decide +kernel)⟩
theorem lw_p26 : lw_okq (⟨"WornDotsModel", "labelOf", "(II)I"⟩, 11) := ⟨⟨by decide +kernel, by decide +kernel⟩, List.mem_of_getElem? (i := 958) (by decide +kernel), List.mem_of_getElem? (i := 1050) (by decide +kernel), List.mem_of_getElem? (i := 1051) (by decide +kernel)⟩
theorem lw_p27 : lw_okq (⟨"WornDotsModel", "isDot", "(I)Z"⟩, 11) := ⟨⟨by decide +kernel, by decide +kernel⟩, List.mem_of_getElem? (i := 958) (by decide +kernel), List.mem_of_getElem? (i := 1058) (by decide +kernel), List.mem_of_getElem? (i := 1059) (by decide +kernel)⟩
theorem lw_p28 : lw_okq (⟨"WornDotsModel", "isCustomer", "(I)Z"⟩, 11) := ⟨⟨by decide +kernel, by decide +kernel⟩, List.mem_of_getElem? (i := 958) (by decide +kernel), List.mem_of_getElem? (i := 1077) (by decide +kernel), List.mem_of_getElem? (i := 1078) (by decide +kernel)⟩
theorem lw_p29 : lw_okq (⟨"WornDotsModel", "isTaken", "(III)Z"⟩, 11) := ⟨⟨by decide +kernel, by decide +kernel⟩, List.mem_of_getElem? (i := 958) (by decide +kernel), List.mem_of_getElem? (i := 1081) (by decide +kernel), List.mem_of_getElem? (i := 1082) (by decide +kernel)⟩
theorem lw_p30 : lw_okq (⟨"WornDotsModel", "renter", "(I)I"⟩, 11) := ⟨⟨by decide +kernel, by decide +kernel⟩, List.mem_of_getElem? (i := 958) (by decide +kernel), List.mem_of_getElem? (i := 1085) (by decide +kernel), List.mem_of_getElem? (i := 1086) (by decide +kernel)⟩
theorem lw_p31 : lw_okq (⟨"WornDotsModel", "customerOf", "(II)I"⟩, 11) := ⟨⟨by decide +kernel, by decide +kernel⟩, List.mem_of_getElem? (i := 958) (by decide +kernel), List.mem_of_getElem? (i := 1089) (by decide +kernel), List.mem_of_getElem? (i := 1090) (by decide +kernel)⟩
def lw_privs_2 : List (MethodName × Nat) := [(⟨"WornDots$State", "allEarned", "()I"⟩, 8), (⟨"WornDots", "mixDots", "(J)J"⟩, 4), (⟨"WornDots$State", "renterOf", "(I)I"⟩, 8), (⟨"WornDots", "mixLabels", "(J)J"⟩, 4), (⟨"WornDots", "mixCustomers", "(J)J"⟩, 4), (⟨"WornDotsModel", "throwsAt", "(I)Z"⟩, 11), (⟨"WornDotsModel", "saves", "()V"⟩, 11), (⟨"WornDotsModel", "sumOf", "(I)I"⟩, 11), (⟨"WornDotsModel", "frees", "(I)V"⟩, 11), (⟨"WornDotsModel", "isLabel", "(I)Z"⟩, 11), (⟨"WornDotsModel", "labelOf", "(II)I"⟩, 11), (⟨"WornDotsModel", "isDot", "(I)Z"⟩, 11), (⟨"WornDotsModel", "isCustomer", "(I)Z"⟩, 11), (⟨"WornDotsModel", "isTaken", "(III)Z"⟩, 11), (⟨"WornDotsModel", "renter", "(I)I"⟩, 11), (⟨"WornDotsModel", "customerOf", "(II)I"⟩, 11)]
theorem lw_r2 : ∀ q ∈ lw_privs_2, lw_okq q := List.forall_mem_cons.mpr ⟨lw_p16, List.forall_mem_cons.mpr ⟨lw_p17, List.forall_mem_cons.mpr ⟨lw_p18, List.forall_mem_cons.mpr ⟨lw_p19, List.forall_mem_cons.mpr ⟨lw_p20, List.forall_mem_cons.mpr ⟨lw_p21, List.forall_mem_cons.mpr ⟨lw_p22, List.forall_mem_cons.mpr ⟨lw_p23, List.forall_mem_cons.mpr ⟨lw_p24, List.forall_mem_cons.mpr ⟨lw_p25, List.forall_mem_cons.mpr ⟨lw_p26, List.forall_mem_cons.mpr ⟨lw_p27, List.forall_mem_cons.mpr ⟨lw_p28, List.forall_mem_cons.mpr ⟨lw_p29, List.forall_mem_cons.mpr ⟨lw_p30, List.forall_mem_cons.mpr ⟨lw_p31, fun _ h => absurd h List.not_mem_nil⟩⟩⟩⟩⟩⟩⟩⟩⟩⟩⟩⟩⟩⟩⟩⟩
theorem lw_p32 : lw_okq (⟨"WornDotsModel", "rented", "()I"⟩, 11) := ⟨⟨by decide +kernel, by decide +kernel⟩, List.mem_of_getElem? (i := 958) (by decide +kernel), List.mem_of_getElem? (i := 1093) (by decide +kernel), List.mem_of_getElem? (i := 1094) (by decide +kernel)⟩
theorem lw_p33 : lw_okq (⟨"WornDotsModel", "wrong", "(III)I"⟩, 11) := ⟨⟨by decide +kernel, by decide +kernel⟩, List.mem_of_getElem? (i := 958) (by decide +kernel), List.mem_of_getElem? (i := 1105) (by decide +kernel), List.mem_of_getElem? (i := 1106) (by decide +kernel)⟩
theorem lw_p34 : lw_okq (⟨"WornDotsModel", "whyNot", "(III)I"⟩, 11) := ⟨⟨by decide +kernel, by decide +kernel⟩, List.mem_of_getElem? (i := 958) (by decide +kernel), List.mem_of_getElem? (i := 1109) (by decide +kernel), List.mem_of_getElem? (i := 1110) (by decide +kernel)⟩
theorem lw_p35 : lw_okq (⟨"WornDotsModel", "blacks", "(I)I"⟩, 11) := ⟨⟨by decide +kernel, by decide +kernel⟩, List.mem_of_getElem? (i := 958) (by decide +kernel), List.mem_of_getElem? (i := 1113) (by decide +kernel), List.mem_of_getElem? (i := 1114) (by decide +kernel)⟩
theorem lw_p36 : lw_okq (⟨"WornDotsModel", "prints", "(III)I"⟩, 11) := ⟨⟨by decide +kernel, by decide +kernel⟩, List.mem_of_getElem? (i := 958) (by decide +kernel), List.mem_of_getElem? (i := 1120) (by decide +kernel), List.mem_of_getElem? (i := 1121) (by decide +kernel)⟩
theorem lw_p37 : lw_okq (⟨"WornDotsModel", "priceOf", "(III)I"⟩, 11) := ⟨⟨by decide +kernel, by decide +kernel⟩, List.mem_of_getElem? (i := 958) (by decide +kernel), List.mem_of_getElem? (i := 1124) (by decide +kernel), List.mem_of_getElem? (i := 1125) (by decide +kernel)⟩
theorem lw_p38 : lw_okq (⟨"WornDotsModel", "plays", "([III)I"⟩, 11) := ⟨⟨by decide +kernel, by decide +kernel⟩, List.mem_of_getElem? (i := 958) (by decide +kernel), List.mem_of_getElem? (i := 1128) (by decide +kernel), List.mem_of_getElem? (i := 1129) (by decide +kernel)⟩
theorem lw_p39 : lw_okq (⟨"WornDotsModel", "best", "(II)I"⟩, 11) := ⟨⟨by decide +kernel, by decide +kernel⟩, List.mem_of_getElem? (i := 958) (by decide +kernel), List.mem_of_getElem? (i := 1142) (by decide +kernel), List.mem_of_getElem? (i := 1143) (by decide +kernel)⟩
theorem lw_p40 : lw_okq (⟨"WornDotsModel", "badOf", "(II)I"⟩, 11) := ⟨⟨by decide +kernel, by decide +kernel⟩, List.mem_of_getElem? (i := 958) (by decide +kernel), List.mem_of_getElem? (i := 1146) (by decide +kernel), List.mem_of_getElem? (i := 1147) (by decide +kernel)⟩
theorem lw_p41 : lw_okq (⟨"WornDotsModel", "copies", "()V"⟩, 11) := ⟨⟨by decide +kernel, by decide +kernel⟩, List.mem_of_getElem? (i := 958) (by decide +kernel), List.mem_of_getElem? (i := 1150) (by decide +kernel), List.mem_of_getElem? (i := 1151) (by decide +kernel)⟩
theorem lw_p42 : lw_okq (⟨"WornDotsModel", "valueOf", "(II)I"⟩, 11) := ⟨⟨by decide +kernel, by decide +kernel⟩, List.mem_of_getElem? (i := 958) (by decide +kernel), List.mem_of_getElem? (i := 1158) (by decide +kernel), List.mem_of_getElem? (i := 1159) (by decide +kernel)⟩
theorem lw_p43 : lw_okq (⟨"WornDotsModel", "ofLabel", "(II)I"⟩, 11) := ⟨⟨by decide +kernel, by decide +kernel⟩, List.mem_of_getElem? (i := 958) (by decide +kernel), List.mem_of_getElem? (i := 1166) (by decide +kernel), List.mem_of_getElem? (i := 1167) (by decide +kernel)⟩
theorem lw_p44 : lw_okq (⟨"WornDotsModel", "empties", "(I)I"⟩, 11) := ⟨⟨by decide +kernel, by decide +kernel⟩, List.mem_of_getElem? (i := 958) (by decide +kernel), List.mem_of_getElem? (i := 1170) (by decide +kernel), List.mem_of_getElem? (i := 1171) (by decide +kernel)⟩
theorem lw_p45 : lw_okq (⟨"WornDotsModel", "wholeOf", "(I)I"⟩, 11) := ⟨⟨by decide +kernel, by decide +kernel⟩, List.mem_of_getElem? (i := 958) (by decide +kernel), List.mem_of_getElem? (i := 1186) (by decide +kernel), List.mem_of_getElem? (i := 1187) (by decide +kernel)⟩
theorem lw_p46 : lw_okq (⟨"WornDotsModel", "earned", "()I"⟩, 11) := ⟨⟨by decide +kernel, by decide +kernel⟩, List.mem_of_getElem? (i := 958) (by decide +kernel), List.mem_of_getElem? (i := 1190) (by decide +kernel), List.mem_of_getElem? (i := 1191) (by decide +kernel)⟩
theorem lw_p47 : lw_okq (⟨"WornDotsModel", "worn", "()I"⟩, 11) := ⟨⟨by decide +kernel, by decide +kernel⟩, List.mem_of_getElem? (i := 958) (by decide +kernel), List.mem_of_getElem? (i := 1218) (by decide +kernel), List.mem_of_getElem? (i := 1219) (by decide +kernel)⟩
def lw_privs_3 : List (MethodName × Nat) := [(⟨"WornDotsModel", "rented", "()I"⟩, 11), (⟨"WornDotsModel", "wrong", "(III)I"⟩, 11), (⟨"WornDotsModel", "whyNot", "(III)I"⟩, 11), (⟨"WornDotsModel", "blacks", "(I)I"⟩, 11), (⟨"WornDotsModel", "prints", "(III)I"⟩, 11), (⟨"WornDotsModel", "priceOf", "(III)I"⟩, 11), (⟨"WornDotsModel", "plays", "([III)I"⟩, 11), (⟨"WornDotsModel", "best", "(II)I"⟩, 11), (⟨"WornDotsModel", "badOf", "(II)I"⟩, 11), (⟨"WornDotsModel", "copies", "()V"⟩, 11), (⟨"WornDotsModel", "valueOf", "(II)I"⟩, 11), (⟨"WornDotsModel", "ofLabel", "(II)I"⟩, 11), (⟨"WornDotsModel", "empties", "(I)I"⟩, 11), (⟨"WornDotsModel", "wholeOf", "(I)I"⟩, 11), (⟨"WornDotsModel", "earned", "()I"⟩, 11), (⟨"WornDotsModel", "worn", "()I"⟩, 11)]
theorem lw_r3 : ∀ q ∈ lw_privs_3, lw_okq q := List.forall_mem_cons.mpr ⟨lw_p32, List.forall_mem_cons.mpr ⟨lw_p33, List.forall_mem_cons.mpr ⟨lw_p34, List.forall_mem_cons.mpr ⟨lw_p35, List.forall_mem_cons.mpr ⟨lw_p36, List.forall_mem_cons.mpr ⟨lw_p37, List.forall_mem_cons.mpr ⟨lw_p38, List.forall_mem_cons.mpr ⟨lw_p39, List.forall_mem_cons.mpr ⟨lw_p40, List.forall_mem_cons.mpr ⟨lw_p41, List.forall_mem_cons.mpr ⟨lw_p42, List.forall_mem_cons.mpr ⟨lw_p43, List.forall_mem_cons.mpr ⟨lw_p44, List.forall_mem_cons.mpr ⟨lw_p45, List.forall_mem_cons.mpr ⟨lw_p46, List.forall_mem_cons.mpr ⟨lw_p47, fun _ h => absurd h List.not_mem_nil⟩⟩⟩⟩⟩⟩⟩⟩⟩⟩⟩⟩⟩⟩⟩⟩
theorem lw_p48 : lw_okq (⟨"WornDotsModel", "fault", "()I"⟩, 11) := ⟨⟨by decide +kernel, by decide +kernel⟩, List.mem_of_getElem? (i := 958) (by decide +kernel), List.mem_of_getElem? (i := 1234) (by decide +kernel), List.mem_of_getElem? (i := 1235) (by decide +kernel)⟩
theorem lw_p49 : lw_okq (⟨"WornDotsModel", "skips", "()V"⟩, 11) := ⟨⟨by decide +kernel, by decide +kernel⟩, List.mem_of_getElem? (i := 958) (by decide +kernel), List.mem_of_getElem? (i := 1238) (by decide +kernel), List.mem_of_getElem? (i := 1239) (by decide +kernel)⟩
theorem lw_p50 : lw_okq (⟨"WornDotsModel", "isAt", "(II)Z"⟩, 11) := ⟨⟨by decide +kernel, by decide +kernel⟩, List.mem_of_getElem? (i := 958) (by decide +kernel), List.mem_of_getElem? (i := 1242) (by decide +kernel), List.mem_of_getElem? (i := 1243) (by decide +kernel)⟩
theorem lw_p51 : lw_okq (⟨"WornDotsModel", "reads", "()Z"⟩, 11) := ⟨⟨by decide +kernel, by decide +kernel⟩, List.mem_of_getElem? (i := 958) (by decide +kernel), List.mem_of_getElem? (i := 1246) (by decide +kernel), List.mem_of_getElem? (i := 1247) (by decide +kernel)⟩
theorem lw_p52 : lw_okq (⟨"WornDotsModel", "wordOf", "(II)J"⟩, 11) := ⟨⟨by decide +kernel, by decide +kernel⟩, List.mem_of_getElem? (i := 958) (by decide +kernel), List.mem_of_getElem? (i := 1250) (by decide +kernel), List.mem_of_getElem? (i := 1251) (by decide +kernel)⟩
theorem lw_p53 : lw_okq (⟨"WornDotsModel", "number", "(I)Z"⟩, 11) := ⟨⟨by decide +kernel, by decide +kernel⟩, List.mem_of_getElem? (i := 958) (by decide +kernel), List.mem_of_getElem? (i := 1265) (by decide +kernel), List.mem_of_getElem? (i := 1266) (by decide +kernel)⟩
theorem lw_p54 : lw_okq (⟨"WornDotsModel", "does", "()I"⟩, 11) := ⟨⟨by decide +kernel, by decide +kernel⟩, List.mem_of_getElem? (i := 958) (by decide +kernel), List.mem_of_getElem? (i := 1269) (by decide +kernel), List.mem_of_getElem? (i := 1270) (by decide +kernel)⟩
def lw_privs_4 : List (MethodName × Nat) := [(⟨"WornDotsModel", "fault", "()I"⟩, 11), (⟨"WornDotsModel", "skips", "()V"⟩, 11), (⟨"WornDotsModel", "isAt", "(II)Z"⟩, 11), (⟨"WornDotsModel", "reads", "()Z"⟩, 11), (⟨"WornDotsModel", "wordOf", "(II)J"⟩, 11), (⟨"WornDotsModel", "number", "(I)Z"⟩, 11), (⟨"WornDotsModel", "does", "()I"⟩, 11)]
theorem lw_r4 : ∀ q ∈ lw_privs_4, lw_okq q := List.forall_mem_cons.mpr ⟨lw_p48, List.forall_mem_cons.mpr ⟨lw_p49, List.forall_mem_cons.mpr ⟨lw_p50, List.forall_mem_cons.mpr ⟨lw_p51, List.forall_mem_cons.mpr ⟨lw_p52, List.forall_mem_cons.mpr ⟨lw_p53, List.forall_mem_cons.mpr ⟨lw_p54, fun _ h => absurd h List.not_mem_nil⟩⟩⟩⟩⟩⟩⟩
def lw_privs : List (MethodName × Nat) := lw_privs_1 ++ (lw_privs_2 ++ (lw_privs_3 ++ (lw_privs_4)))
def lw_tbl : List Cond := k2_sels lw_privs ++ tables_1
theorem lw_privs_ok : ∀ q ∈ lw_privs, lw_okq q := by
  show ∀ q ∈ lw_privs_1 ++ (lw_privs_2 ++ (lw_privs_3 ++ (lw_privs_4))), lw_okq q
  exact List.forall_mem_append.mpr ⟨lw_r1, List.forall_mem_append.mpr ⟨lw_r2, List.forall_mem_append.mpr ⟨lw_r3, lw_r4⟩⟩⟩
/-! ===== BEGIN words of one list among another's, by their places ===== -/
theorem goodIn_r {big : List Cond} (ws : List Cond) (ps : List Nat) (hp : ws = ps.filterMap (fun i => big[i]?)) (h : ws.all goodWord = true) : GoodIn big ws := by
  intro w hw
  have h1 := List.all_eq_true.mp h w hw
  rw [hp] at hw
  obtain ⟨i, -, hi⟩ := List.mem_filterMap.mp hw
  have hm : w ∈ big := by first | exact List.mem_of_getElem? hi | exact List.getElem?_mem hi
  exact ⟨hm, good_of_word h1⟩
theorem goodIn_app {big a b : List Cond} (ha : GoodIn big a) (hb : GoodIn big b) : GoodIn big (a ++ b) := fun w h => (List.mem_append.mp h).elim (ha w) (hb w)
theorem goodIn_ca {big a b : List Cond} {c : Cond} (ha : GoodIn big (c :: a)) (hb : GoodIn big b) : GoodIn big (c :: (a ++ b)) := fun w h => (List.mem_cons.mp h).elim (fun e => ha w (List.mem_cons.mpr (Or.inl e))) (fun h => (List.mem_append.mp h).elim (fun h => ha w (List.mem_cons.mpr (Or.inr h))) (hb w))
theorem goodIn_sub {big ws : List Cond} (hm : ∀ w ∈ ws, w ∈ big) (h : ws.all goodWord = true) : GoodIn big ws := fun w hw => ⟨hm w hw, good_of_word (List.all_eq_true.mp h w hw)⟩
/-! ===== END ===== -/

/-! ===== BEGIN exceptions that leave a method, and their catching by the caller (launches without stack traces) ===== -/
section VXA
/-! The laws vx_back, vx_callV, vx_callS, vx_callSW, vx_throw0, vx_throwS follow proofs of the library, with one case more: JvmDerived/Free/Laws.lean (Back.of_free), Shelf42/LK1.lean (callV, callS), Shelf/KitTraced.lean (throwNew0V, throwNewS). -/
/-- where a method has thrown q: the class by its name, the cell, what was written, the world -/
def vx_T (XC : String → State → State → Prop) (st : State) (q : Addr) (t : State) (mc ms : Nat) (free : Addr → Prop) : Prop :=
  ∃ (E : String) (ce : Cell) (L : List Loc), XC E st t ∧ t.heap[q]? = some ce ∧ ce.vm = .none ∧ st.vm.findClass E = some ce.cls ∧ st.WarmedH t.vm ∧ st.sameButNew ({ t with vm := st.vm } : State) L mc ms ∧ ∀ z ∈ L, free z.base
def vx_Q (Qc : Array Value → State → Outcome → State → Prop) (XC : String → State → State → Prop) (mc ms : Nat) (free : Addr → Prop) : Array Value → State → Outcome → State → Prop := fun a st o t =>
  (Qc a st o t ∧ ∃ L, FrameEnd st o t L mc ms ∧ ∀ q ∈ L, free q.base) ∨ ∃ q, o = .threw q ∧ vx_T XC st q t mc ms free
/-- a callee that returns or throws -/
def vx_Met (l : Launch) (y : MethodName) (ws : List Cond) (rm : Room) (Pc : Array Value → State → Prop) (Qc : Array Value → State → Outcome → State → Prop) (XC : String → State → State → Prop) (mc ms : Nat) (free : Addr → Prop) : Prop :=
  MetFree l y (headSpec ws rm) Pc (fun _ _ _ _ _ => True) (vx_Q Qc XC mc ms free)
def vx_Post (XC : String → State → State → Prop) (mc ms : Nat) (free : Addr → Prop) : Pt → Array Value → Addr → Pt → Prop := fun A a q B =>
  ∃ (g : JFrame) (mk : MethodId) (t : State) (L : List Loc) (E : String) (ce : Cell), B.U.heap = t.heap ∧ B.U.vm = t.vm ∧ XC E (A.U.calling g mk a) t ∧ t.heap[q]? = some ce ∧ ce.vm = .none ∧ A.U.vm.findClass E = some ce.cls ∧ B.locs = A.locs ++ L ∧ (∀ z ∈ L, free z.base) ∧ B.cells = A.cells + mc ∧ B.slots = A.slots + ms
def vx_Back (l : Launch) (R : Room) (p : Program) (e : Env) (below : List Frame) (s : State) (sargs : Array Value) (y : MethodName) (len W9 : Nat)
    (Pre : Pt → Array Value → Prop) (Post : Pt → Array Value → Option Value → Pt → Prop) (PostX : Pt → Array Value → Addr → Pt → Prop) : Prop :=
  ∀ (m : MethodId) (meth : Method) (c : Code) (A : Pt) (g : JFrame) (ig : Instr) (mk : MethodId) (a : Array Value),
    Stand p l e R s m sargs below meth c A.U A.locs A.cells A.slots → g.method = m → g.locals.size = c.maxLocals → decode c.code g.pc = .ok (ig, len) →
    2 * g.monitorRoom + (g.stack.map fun v => v.category).sum ≤ W9 → A.U.methodNamed? y = some mk → Pre A a →
    (∃ (v : Option Value) (B : Pt), Stand p l e R s m sargs below meth c B.U B.locs B.cells B.slots ∧ Post A a v B ∧
      Steps p.tables e below (doInvoke e (A.U.setTop g) [] mk a).1 (B.U.setTop { g with pc := g.pc + len, stack := v.toList ++ g.stack })) ∨
    (∃ (q : Addr) (B : Pt), Stand p l e R s m sargs below meth c B.U B.locs B.cells B.slots ∧ PostX A a q B ∧
      Steps p.tables e below (doInvoke e (A.U.setTop g) [] mk a).1 ((B.U.setTop g).pushFrame (.throwing q)))
section Payer
variable {l : Launch} {R : Room} {p : Program} {e : Env} {below : List Frame} {s : State} {sargs : Array Value} {y : MethodName} {len W9 : Nat}
theorem vx_back {ws : List Cond} {rm : Room} {Pc : Array Value → State → Prop} {Qc : Array Value → State → Outcome → State → Prop} {XC : String → State → State → Prop} {mc ms : Nat} {free : Addr → Prop} {bytes : ByteArray} {maxL : Nat} {ret : Option FieldType}
    (hM : vx_Met l y ws rm Pc Qc XC mc ms free) (hblind : FrameBlind Pc) (hrc : rm.cells = mc) (hrs : rm.slots = ms)
    (hframes : rm.frames + 1 ≤ R.frames) (hlocals : W9 + (maxL + 11) + rm.locals ≤ R.locals)
    (hws : ∀ w ∈ ws, ∀ a' U, s.WarmedH U.vm → w.before a' U = true) (hcode : Cond.code y bytes maxL ret ∈ ws) (hinit : ∀ a' U, s.WarmedH U.vm → (Cond.initialized y.cls).before a' U = true) :
    vx_Back l R p e below s sargs y len W9 (PreOf R mc ms Pc) (PostOf Qc mc ms free) (vx_Post XC mc ms free) := by
  intro m meth c A g ig mk a X hg hsize hdg hW hn hp
  have h1 : (headSpec ws rm).pre.before a A.U = true := atoms_intro fun w hw => hws w hw _ _ X.warmed
  have h2 : (Cond.code y bytes maxL ret).before a A.U = true := hws _ hcode _ _ X.warmed
  have h3 : (Cond.initialized y.cls).before a A.U = true := hinit _ _ X.warmed
  have h4 : A.cells + (headSpec ws rm).room.cells ≤ R.cells := by rw [show (headSpec ws rm).room.cells = mc from hrc]; exact hp.1
  have h5 : A.slots + (headSpec ws rm).room.slots ≤ R.slots := by rw [show (headSpec ws rm).room.slots = ms from hrs]; exact hp.2.1
  have hPc : Pc a (A.U.calling g mk a) := hblind _ _ _ _ hp.2.2
  obtain ⟨U, Ls, c0, s0⟩ := A
  dsimp only [Pt.U, Pt.locs, Pt.cells, Pt.slots] at h1 h2 h3 h4 h5 X hn hPc ⊢
  obtain ⟨methY, cY, hmY, hcY, -, hlY, -, -, -, -⟩ := Cond.code_spec hn h2
  obtain ⟨kY, hkY, -⟩ := className_of_methodNamed hn
  have hinitY : kY.init = .initialized := Cond.initialized_spec (findClass_of_methodNamed hn) hkY h3
  have h : At U g.method c below := by rw [hg]; exact X.here
  have hlocals9 : W9 + (maxL + 11) + (headSpec ws rm).room.locals ≤ R.locals := hlocals
  have happ : (headSpec ws rm).appliesLoose y e.platform (U.calling g mk a) = true :=
    Spec.appliesLoose_calling (g := g) h hdg hn hkY hinitY
      (X.room_calling (g := g) (R' := (headSpec ws rm).room) hsize hmY hcY hframes (by rw [hlY]; omega) h4 h5) h1
  obtain ⟨mid, hmid⟩ := h.above
  have hfr : (U.setTop g).frames = (.java g :: mid) ++ below := by rw [State.frames_setTop' g h.top, hmid]; rfl
  obtain ⟨o, s₂, hsteps, -, hend, hq⟩ := Steps.callFree hM p X.admits X.cas X.clock (acts := []) hfr happ hPc trivial
  have hq' : vx_Q Qc XC mc ms free a (U.calling g mk a) o s₂ := hq
  rw [State.frames_setTop' g h.top] at hend
  obtain ⟨g₀, hg0⟩ := Option.isSome_iff_exists.mp h.top
  obtain ⟨r, hr⟩ := State.topJava?_eq_some.mp hg0
  have hr' : (({ U with heap := s₂.heap, slotsUsed := s₂.slotsUsed } : State).setVm s₂.vm).frames = .java g₀ :: r := hr
  rcases hq' with ⟨hqc, L, hfe, hL⟩ | ⟨q, rfl, E, ce, L, hx, hce, hcv, hcl, hW₂, hsm, hL⟩
  · obtain ⟨⟨v, rfl⟩, hW₂, e2, q2, q3, q4, q5, q6⟩ := id hfe
    have e3 : s₂ = ({ (U.calling g mk a).setFrames s₂.frames with heap := s₂.heap, slotsUsed := s₂.slotsUsed } : State).setVm s₂.vm := by
      have : s₂ = ({ s₂ with vm := (U.calling g mk a).vm } : State).setVm s₂.vm := rfl
      rw [e2] at this
      exact this
    obtain ⟨c₂, i₂, len₂, hc₂, hd₂, hf₂⟩ := hend
    have hW' : U.WarmedH s₂.vm := hW₂
    have hcc : c₂ = c := by
      have h1 : s₂.code? g.method = U.code? g.method := by
        rw [State.code?_eq, State.code?_eq, hW'.alike.method?]
      exact Option.some.inj (hc₂.symm.trans (h1.trans h.code))
    subst hcc
    have hlen : len₂ = len := by rw [hdg] at hd₂; cases hd₂; rfl
    subst hlen
    have hs₂ : s₂ = (({ U with heap := s₂.heap, slotsUsed := s₂.slotsUsed } : State).setVm s₂.vm).setTop { g with pc := g.pc + len₂, stack := v.toList ++ g.stack } := by
      refine e3.trans ?_
      rw [hf₂, State.calling_eq h.top, State.setFrames_setFrames, State.setTop_of_frames _ hr', hr]
      rfl
    have hsame : U.sameButNew ({ U with heap := s₂.heap, slotsUsed := s₂.slotsUsed } : State) L mc ms := by
      refine ⟨?_, q2, q3, q4, q5, q6⟩
      obtain ⟨t, ht, -⟩ := State.frames_cons hr
      show ({ U with heap := s₂.heap, slotsUsed := s₂.slotsUsed } : State) = { U.setFrames U.frames with heap := s₂.heap, slotsUsed := s₂.slotsUsed }
      rw [State.setFrames_self ht]
    subst hg
    refine Or.inl ⟨v, ⟨(({ U with heap := s₂.heap, slotsUsed := s₂.slotsUsed } : State).setVm s₂.vm), Ls ++ L, c0 + mc, s0 + ms⟩,
      ⟨X.admits, X.cas, X.clock, X.frames, X.room, X.hears, X.method, X.code, (X.here.setHeapUsed s₂.heap s₂.slotsUsed).setVm hW'.alike, X.tail, State.WarmedH.trans X.warmed hW', X.limits, X.bytes, X.same.trans (hsame.setVm s.vm)⟩,
      ⟨g, mk, s₂, L, rfl, rfl, hqc, rfl, hL, rfl, rfl⟩, ?_⟩
    show Steps p.tables e below _ ((({ U with heap := s₂.heap, slotsUsed := s₂.slotsUsed } : State).setVm s₂.vm).setTop { g with pc := g.pc + len₂, stack := v.toList ++ g.stack })
    rw [← hs₂]
    exact hsteps
  · obtain ⟨e2, q2, q3, q4, q5, q6⟩ := id hsm
    have e3 : s₂ = ({ (U.calling g mk a).setFrames s₂.frames with heap := s₂.heap, slotsUsed := s₂.slotsUsed } : State).setVm s₂.vm := by
      have : s₂ = ({ s₂ with vm := (U.calling g mk a).vm } : State).setVm s₂.vm := rfl
      rw [e2] at this
      exact this
    have hf₂ : s₂.frames = .throwing q :: .java g :: U.frames.tail := hend
    have hW' : U.WarmedH s₂.vm := hW₂
    have hs₂ : s₂ = ((({ U with heap := s₂.heap, slotsUsed := s₂.slotsUsed } : State).setVm s₂.vm).setTop g).pushFrame (.throwing q) := by
      refine e3.trans ?_
      rw [hf₂, State.calling_eq h.top, State.setFrames_setFrames, State.pushFrame, State.frames_setTop _ hr', State.setTop_of_frames _ hr', State.setFrames_setFrames, hr]
      rfl
    have hsame : U.sameButNew ({ U with heap := s₂.heap, slotsUsed := s₂.slotsUsed } : State) L mc ms := by
      refine ⟨?_, q2, q3, q4, q5, q6⟩
      obtain ⟨t, ht, -⟩ := State.frames_cons hr
      show ({ U with heap := s₂.heap, slotsUsed := s₂.slotsUsed } : State) = { U.setFrames U.frames with heap := s₂.heap, slotsUsed := s₂.slotsUsed }
      rw [State.setFrames_self ht]
    subst hg
    refine Or.inr ⟨q, ⟨(({ U with heap := s₂.heap, slotsUsed := s₂.slotsUsed } : State).setVm s₂.vm), Ls ++ L, c0 + mc, s0 + ms⟩,
      ⟨X.admits, X.cas, X.clock, X.frames, X.room, X.hears, X.method, X.code, (X.here.setHeapUsed s₂.heap s₂.slotsUsed).setVm hW'.alike, X.tail, State.WarmedH.trans X.warmed hW', X.limits, X.bytes, X.same.trans (hsame.setVm s.vm)⟩,
      ⟨g, mk, s₂, L, E, ce, rfl, rfl, hx, hce, hcv, hcl, rfl, hL, rfl, rfl⟩, ?_⟩
    show Steps p.tables e below _ (((({ U with heap := s₂.heap, slotsUsed := s₂.slotsUsed } : State).setVm s₂.vm).setTop g).pushFrame (.throwing q))
    rw [← hs₂]
    exact hsteps
end Payer
section Calls
variable {p : Program} {l : Launch} {e : Env} {R : Room} {s : State} {m : MethodId} {args : Array Value} {below : List Frame} {meth : Method} {c : Code} {T : State} {locs : List Loc} {cells slots : Nat}
theorem vx_callV (X : Stand p l e R s m args below meth c T locs cells slots) (hexec : p.tables.exec = Jvm.exec) {own C : String} {index : Nat} {y : MethodName} {bytes : ByteArray} {maxL : Nat} {ret : Option FieldType}
    (hown : s.vm.findClass own = some m.cls) (hlink : (Cond.methodLink own index y).before args s = true) (hinst : (Cond.instanceMethod y).before args s = true) (hsel : (Cond.selects C y y).before args s = true)
    (hcode : (Cond.code y bytes maxL ret).before args s = true) (hy : y.cls ≠ "java/lang/invoke/MethodHandle" ∧ y.cls ≠ "java/lang/invoke/VarHandle")
    {W9 : Nat} {Pre : Pt → Array Value → Prop} {Post : Pt → Array Value → Option Value → Pt → Prop} {PostX : Pt → Array Value → Addr → Pt → Prop} (hK : vx_Back l R p e below s args y 3 W9 Pre Post PostX)
    {b : Addr} {cellB : Cell} (hcell : T.heap[b]? = some cellB) (hobj : cellB.vm.isStatics = false) (hcls : s.vm.findClass C = some cellB.cls)
    {g : JFrame} (hg : g.method = m) (hsize : g.locals.size = c.maxLocals) {argsL rest : List Value} (hlen : ∀ sig, parseMethodDescriptor y.desc = some sig → argsL.length = sig.parameters.length)
    (hstack : g.stack = argsL.reverse ++ .ref b :: rest) (hW : 2 * g.monitorRoom + (rest.map fun v => v.category).sum ≤ W9) (hdg : decode c.code g.pc = .ok (.invokevirtual index, 3))
    (hpre : ∀ vm₁, s.WarmedH vm₁ → Pre ⟨T.setVm vm₁, locs, cells, slots⟩ (Value.ref b :: argsL).toArray) :
    (∃ (v : Option Value) (vm₁ : Vm) (B : Pt), s.WarmedH vm₁ ∧ Stand p l e R s m args below meth c B.U B.locs B.cells B.slots ∧ Post ⟨T.setVm vm₁, locs, cells, slots⟩ (Value.ref b :: argsL).toArray v B ∧
      ∀ target, Steps p.tables e below (B.U.setTop { g with pc := g.pc + 3, stack := v.toList ++ rest }) target → Steps p.tables e below (T.setTop g) target) ∨
    (∃ (q : Addr) (vm₁ : Vm) (B : Pt), s.WarmedH vm₁ ∧ Stand p l e R s m args below meth c B.U B.locs B.cells B.slots ∧ PostX ⟨T.setVm vm₁, locs, cells, slots⟩ (Value.ref b :: argsL).toArray q B ∧
      Steps p.tables e below (T.setTop g) ((B.U.setTop { g with stack := rest }).pushFrame (.throwing q))) := by
  obtain ⟨mk, methM, hnamed, hmethM, hstM, habM⟩ := Cond.instanceMethod_spec hinst
  obtain ⟨methM', cM, hmethM', -, -, -, -, -, -, hsigM⟩ := Cond.code_spec hnamed hcode
  cases hmethM.symm.trans hmethM'
  obtain ⟨c2, r2, m2, q1, q2, q3, q4, kP, hkP, hkPi⟩ := Cond.selects_spec hsel
  cases hcls.symm.trans q1
  cases (State.methodFound?_of_named hnamed hy).symm.trans q2
  cases hnamed.symm.trans q3
  have hselP : selectMethod e.platform s.vm cellB.cls mk = .method mk := by rw [Launch.admits_selectMethod X.admits]; exact q4
  obtain ⟨vm₁, X₁, hstep₁⟩ := X.invokevirtual hexec hown hlink hnamed hmethM hstM hkP hkPi hy (a := b) (cell := cellB) hcell
    (fun z h => by rw [h] at hobj; cases hobj) hselP hmethM habM hkP hkPi (g := g) hg (argsL := argsL) (rest := rest) (hlen _ hsigM) hstack hdg
  rcases hK m meth c ⟨T.setVm vm₁, locs, cells, slots⟩ { g with stack := rest } (.invokevirtual index) mk (Value.ref b :: argsL).toArray X₁ hg hsize hdg hW (X₁.named hnamed) (hpre vm₁ X₁.warmed) with ⟨v, B, X', hpost, hsteps⟩ | ⟨q, B, X', hpost, hsteps⟩
  · exact Or.inl ⟨v, vm₁, B, X₁.warmed, X', hpost, fun target h => hstep₁ _ fun acts => by rw [doInvoke_state]; exact hsteps.trans h⟩
  · exact Or.inr ⟨q, vm₁, B, X₁.warmed, X', hpost, hstep₁ _ fun acts => by rw [doInvoke_state]; exact hsteps⟩
theorem vx_callS (X : Stand p l e R s m args below meth c T locs cells slots) (hexec : p.tables.exec = Jvm.exec) {own : String} {index : Nat} {y : MethodName} {bytes : ByteArray} {maxL : Nat} {ret : Option FieldType}
    (hown : s.vm.findClass own = some m.cls) (hlink : (Cond.methodLink own index y).before args s = true) (hstat : (Cond.static y).before args s = true) (hinit : (Cond.initialized y.cls).before args s = true)
    (hcode : (Cond.code y bytes maxL ret).before args s = true) (hy : y.cls ≠ "java/lang/invoke/MethodHandle" ∧ y.cls ≠ "java/lang/invoke/VarHandle")
    {W9 : Nat} {Pre : Pt → Array Value → Prop} {Post : Pt → Array Value → Option Value → Pt → Prop} {PostX : Pt → Array Value → Addr → Pt → Prop} (hK : vx_Back l R p e below s args y 3 W9 Pre Post PostX)
    {g : JFrame} (hg : g.method = m) (hsize : g.locals.size = c.maxLocals) {argsL rest : List Value} (hlen : ∀ sig, parseMethodDescriptor y.desc = some sig → argsL.length = sig.parameters.length)
    (hstack : g.stack = argsL.reverse ++ rest) (hW : 2 * g.monitorRoom + (rest.map fun v => v.category).sum ≤ W9) (hdg : decode c.code g.pc = .ok (.invokestatic index, 3))
    (hpre : ∀ vm₁, s.WarmedH vm₁ → Pre ⟨T.setVm vm₁, locs, cells, slots⟩ argsL.toArray) :
    (∃ (v : Option Value) (vm₁ : Vm) (B : Pt), s.WarmedH vm₁ ∧ Stand p l e R s m args below meth c B.U B.locs B.cells B.slots ∧ Post ⟨T.setVm vm₁, locs, cells, slots⟩ argsL.toArray v B ∧
      ∀ target, Steps p.tables e below (B.U.setTop { g with pc := g.pc + 3, stack := v.toList ++ rest }) target → Steps p.tables e below (T.setTop g) target) ∨
    (∃ (q : Addr) (vm₁ : Vm) (B : Pt), s.WarmedH vm₁ ∧ Stand p l e R s m args below meth c B.U B.locs B.cells B.slots ∧ PostX ⟨T.setVm vm₁, locs, cells, slots⟩ argsL.toArray q B ∧
      Steps p.tables e below (T.setTop g) ((B.U.setTop { g with stack := rest }).pushFrame (.throwing q))) := by
  obtain ⟨mk, hnamed⟩ := Cond.code_named hcode
  obtain ⟨methM, cM, hmethM, -, -, -, -, -, -, hsigM⟩ := Cond.code_spec hnamed hcode
  have hstatic : methM.isStatic = true := Cond.static_spec hnamed hmethM hstat
  obtain ⟨kP, hkP, -⟩ := className_of_methodNamed hnamed
  have hinitP : kP.init = .initialized := Cond.initialized_spec (findClass_of_methodNamed hnamed) hkP hinit
  obtain ⟨vm₁, X₁, hstep₁⟩ := X.invokestatic hexec hown hlink hnamed hmethM hstatic hkP hinitP hy (g := g) hg (argsL := argsL) (rest := rest) (hlen _ hsigM) hstack hdg
  rcases hK m meth c ⟨T.setVm vm₁, locs, cells, slots⟩ { g with stack := rest } (.invokestatic index) mk argsL.toArray X₁ hg hsize hdg hW (X₁.named hnamed) (hpre vm₁ X₁.warmed) with ⟨v, B, X', hpost, hsteps⟩ | ⟨q, B, X', hpost, hsteps⟩
  · exact Or.inl ⟨v, vm₁, B, X₁.warmed, X', hpost, fun target h => hstep₁ _ fun acts => by rw [doInvoke_state]; exact hsteps.trans h⟩
  · exact Or.inr ⟨q, vm₁, B, X₁.warmed, X', hpost, hstep₁ _ fun acts => by rw [doInvoke_state]; exact hsteps⟩
end Calls
theorem vx_cls {s : State} {T : State} {vm₁ : Vm} {E : String} {k : ClassId} (hW : s.WarmedH vm₁) (h : (T.setVm vm₁).vm.findClass E = some k) : s.vm.findClass E = some k := by
  have h1 : vm₁.findClass E = some k := h
  rw [hW.alike.findClass] at h1
  exact h1
/-- the method's frame g, with q thrown over it -/
def vx_W (p : Program) (l : Launch) (e : Env) (R : Room) (s : State) (m : MethodId) (args : Array Value) (below : List Frame) (meth : Method) (c : Code) (H : Heap) (locs : List Loc) (cells slots : Nat) (Q : State → Prop) (g : JFrame) (q : Addr) : Prop :=
  ∀ T : State, T.heap = H → Stand p l e R s m args below meth c T locs cells slots → ∃ t, Steps p.tables e below ((T.setTop g).pushFrame (.throwing q)) t ∧ Q t
def vx_Run (p : Program) (l : Launch) (e : Env) (R : Room) (s : State) (m : MethodId) (args : Array Value) (below : List Frame) (meth : Method) (c : Code) (H : Heap) (locs : List Loc) (cells slots mc ms : Nat) (g : JFrame) (rest : List Value) (Qa : State → Outcome → State → Prop) (XC : String → State → State → Prop) (free : Addr → Prop) : Prop :=
  ∀ T : State, T.heap = H → Stand p l e R s m args below meth c T locs cells slots →
    (∃ (v : Option Value) (st₀ t T' : State) (L : List Loc), st₀.heap = H ∧ Stand p l e R s m args below meth c T' (locs ++ L) (cells + mc) (slots + ms) ∧ (∀ q ∈ L, free q.base) ∧ T'.heap = t.heap ∧ T'.vm = t.vm ∧ Qa st₀ (.returned v) t ∧
      Goes p e below T g T' { g with pc := g.pc + 3, stack := v.toList ++ rest }) ∨
    (∃ (q : Addr) (st₀ t T' : State) (L : List Loc) (E : String) (ce : Cell), st₀.heap = H ∧ Stand p l e R s m args below meth c T' (locs ++ L) (cells + mc) (slots + ms) ∧ (∀ z ∈ L, free z.base) ∧ T'.heap = t.heap ∧ T'.vm = t.vm ∧ XC E st₀ t ∧ t.heap[q]? = some ce ∧ ce.vm = .none ∧ s.vm.findClass E = some ce.cls ∧
      Steps p.tables e below (T.setTop g) ((T'.setTop { g with stack := rest }).pushFrame (.throwing q)))
def vx_X {S : Type} (px : S → Prop) (B : String → S → State → Prop) (A : Nat → Prop) : String → State → State → Prop := fun E st t => ∃ u : S, px u ∧ B E u t ∧ va_F A st t
section Runs
variable {p : Program} {l : Launch} {e : Env} {R : Room} {s : State} {m : MethodId} {args : Array Value} {below : List Frame} {meth : Method} {c : Code} {H : Heap} {locs : List Loc} {cells slots : Nat}
variable {y : MethodName} {bytes cc : ByteArray} {maxL nL mc ms n index : Nat} {ret : Option FieldType} {ws : List Cond} {rm : Room} {Pc : Array Value → State → Prop} {Qc : Array Value → State → Outcome → State → Prop} {XC : String → State → State → Prop} {free : Addr → Prop} {Ts : List Cond} {own C : String} {b : Addr} {As rest : List Value} {g : JFrame}
theorem vx_callBack (cb : CallB R s args own index y bytes maxL ret ws rm mc ms n) (hM : vx_Met l y ws rm Pc Qc XC mc ms free) (hbl : FrameBlind Pc) : vx_Back l R p e below s args y 3 8 (PreOf R mc ms Pc) (PostOf Qc mc ms free) (vx_Post XC mc ms free) := by
  obtain ⟨hrc, hrs, hfr, hlo, hws, hcw, -, hini, -⟩ := cb
  exact vx_back (bytes := bytes) (maxL := maxL) (ret := ret) hM hbl hrc hrs hfr hlo hws hcw (fun a' U hW => word_at hW (Or.inl (by first | rfl | simp [Cond.onTables, Cond.keeps, Cond.steady])) hini)
theorem vx_runV (S : CallFix p m c cc nL s args Ts own) (hM : vx_Met l y ws rm Pc Qc XC mc ms free) (cw : CallW R s args own C index y bytes maxL ret ws rm mc ms n) (hp : PreV s H C b Pc As)
    (hg : g.method = m) (hn : As.length = n) (hsize : g.locals.size = nL) (hstack : g.stack = As.reverse ++ .ref b :: rest) (hW : 2 * g.monitorRoom + (rest.map fun v => v.category).sum ≤ 8) (hdg : decode cc g.pc = .ok (.invokevirtual index, 3)) (hf : cells + mc ≤ R.cells ∧ slots + ms ≤ R.slots) :
    vx_Run p l e R s m args below meth c H locs cells slots mc ms g rest (Qc (Value.ref b :: As).toArray) XC free := by
  have hK : vx_Back l R p e below s args y 3 8 (PreOf R mc ms Pc) (PostOf Qc mc ms free) (vx_Post XC mc ms free) := vx_callBack cw.1 hM hp.1
  obtain ⟨⟨-, -, -, -, -, -, hcode, -, hy, hlen, hl⟩, hin, hse⟩ := cw
  obtain ⟨hx, hb, hml, ho, -⟩ := S
  obtain ⟨-, ⟨cellB, hcB, hoB, hclB⟩, hPc⟩ := hp
  intro T hT X
  rcases vx_callV X hx (C := C) (bytes := bytes) (maxL := maxL) (ret := ret) ho hl hin hse hcode hy hK (by rw [hT]; exact hcB) hoB hclB hg (hsize.trans hml.symm) (argsL := As) (rest := rest) (fun sig h => hn.trans (hlen sig h)) hstack hW (by rw [hb]; exact hdg)
    (fun vm₁ hW₁ => ⟨hf.1, hf.2, hPc (T.setVm vm₁) hT hW₁⟩) with ⟨v, vm₁, ⟨U', l2, c2, s2⟩, hW₁, X', ⟨g', mk, t, L, e1, e2, hq, h1, hL, h2, h3⟩, st⟩ | ⟨q, vm₁, ⟨U', l2, c2, s2⟩, hW₁, X', ⟨g', mk, t, L, E, ce, e1, e2, hq, hce, hcv, hcl, h1, hL, h2, h3⟩, st⟩
  · dsimp only [Pt.U, Pt.locs, Pt.cells, Pt.slots] at X' e1 e2 h1 h2 h3 st
    subst h1; subst h2; subst h3
    exact Or.inl ⟨v, (T.setVm vm₁).calling g' mk (Value.ref b :: As).toArray, t, U', L, hT, X', hL, e1, e2, hq, st⟩
  · dsimp only [Pt.U, Pt.locs, Pt.cells, Pt.slots] at X' e1 e2 h1 h2 h3 st hcl
    subst h1; subst h2; subst h3
    exact Or.inr ⟨q, (T.setVm vm₁).calling g' mk (Value.ref b :: As).toArray, t, U', L, E, ce, hT, X', hL, e1, e2, hq, hce, hcv, vx_cls hW₁ hcl, st⟩
theorem vx_runS (S : CallFix p m c cc nL s args Ts own) (hM : vx_Met l y ws rm Pc Qc XC mc ms free) (cw : CallB R s args own index y bytes maxL ret ws rm mc ms n ∧ (Cond.static y).before args s = true) (hp : PreS s H Pc As)
    (hg : g.method = m) (hn : As.length = n) (hsize : g.locals.size = nL) (hstack : g.stack = As.reverse ++ rest) (hW : 2 * g.monitorRoom + (rest.map fun v => v.category).sum ≤ 8) (hdg : decode cc g.pc = .ok (.invokestatic index, 3)) (hf : cells + mc ≤ R.cells ∧ slots + ms ≤ R.slots) :
    vx_Run p l e R s m args below meth c H locs cells slots mc ms g rest (Qc As.toArray) XC free := by
  have hK : vx_Back l R p e below s args y 3 8 (PreOf R mc ms Pc) (PostOf Qc mc ms free) (vx_Post XC mc ms free) := vx_callBack cw.1 hM hp.1
  obtain ⟨⟨-, -, -, -, -, -, hcode, hini, hy, hlen, hl⟩, hstt⟩ := cw
  obtain ⟨hx, hb, hml, ho, -⟩ := S
  intro T hT X
  rcases vx_callS X hx (bytes := bytes) (maxL := maxL) (ret := ret) ho hl hstt hini hcode hy hK hg (hsize.trans hml.symm) (argsL := As) (rest := rest) (fun sig h => hn.trans (hlen sig h)) hstack hW (by rw [hb]; exact hdg)
    (fun vm₁ hW₁ => ⟨hf.1, hf.2, hp.2 (T.setVm vm₁) hT hW₁⟩) with ⟨v, vm₁, ⟨U', l2, c2, s2⟩, hW₁, X', ⟨g', mk, t, L, e1, e2, hq, h1, hL, h2, h3⟩, st⟩ | ⟨q, vm₁, ⟨U', l2, c2, s2⟩, hW₁, X', ⟨g', mk, t, L, E, ce, e1, e2, hq, hce, hcv, hcl, h1, hL, h2, h3⟩, st⟩
  · dsimp only [Pt.U, Pt.locs, Pt.cells, Pt.slots] at X' e1 e2 h1 h2 h3 st
    subst h1; subst h2; subst h3
    exact Or.inl ⟨v, (T.setVm vm₁).calling g' mk As.toArray, t, U', L, hT, X', hL, e1, e2, hq, st⟩
  · dsimp only [Pt.U, Pt.locs, Pt.cells, Pt.slots] at X' e1 e2 h1 h2 h3 st hcl
    subst h1; subst h2; subst h3
    exact Or.inr ⟨q, (T.setVm vm₁).calling g' mk As.toArray, t, U', L, E, ce, hT, X', hL, e1, e2, hq, hce, hcv, vx_cls hW₁ hcl, st⟩
end Runs
section Rows
variable {p : Program} {l : Launch} {e : Env} {R : Room} {s : State} {m : MethodId} {args : Array Value} {below : List Frame} {meth : Method} {c : Code} {H : Heap} {locs : List Loc} {cells slots : Nat} {Q : State → Prop}
variable {mc ms : Nat} {free : Addr → Prop} {A0 A1 : Nat → Prop} {H0 : Heap} {a : Array Value} {pc : Nat} {ls : Array Slot} {st0 rest : List Value}
theorem vx_keep {st₀ t T' : State} {L : List Loc} (h0 : st₀.heap = H) (e1 : T'.heap = t.heap) (hS : va_S A0 H0 H locs) (hA : ∀ q, q < H.size → A1 q → A0 q) (hf : ∀ q, free q → A0 q) (hL : ∀ q ∈ L, free q.base) (hF : va_F A1 st₀ t) :
    H.size ≤ T'.heap.size ∧ (∀ q : Nat, q < H.size → ¬ A1 q → T'.heap[q]? = H[q]?) ∧ va_S A0 H0 T'.heap (locs ++ L) := by
  obtain ⟨hz, hk⟩ := hF
  rw [h0] at hz hk
  exact ⟨by rw [e1]; exact hz, fun q h1 h2 => by rw [e1]; exact hk q h1 h2,
    ⟨Nat.le_trans hS.1 (by rw [e1]; exact hz), fun q h1 h2 => by rw [e1, hk q (Nat.lt_of_lt_of_le h1 hS.1) (fun z => h2 (hA q (Nat.lt_of_lt_of_le h1 hS.1) z))]; exact hS.2.1 q h1 h2, fun q hq => by
      rcases List.mem_append.mp hq with h | h
      · exact hS.2.2 q h
      · exact hf _ (hL q h)⟩⟩
theorem vx_calli {S SX : Type} {post : Int32 → S → Prop} {px : SX → Prop} {B : S → State → Prop} {BX : String → SX → State → Prop} {AX : Nat → Prop} (hr : vx_Run p l e R s m args below meth c H locs cells slots mc ms (F0 m pc ls st0) rest (va_Qi post B A1 a) (vx_X px BX AX) free) (hS : va_S A0 H0 H locs) (hA : ∀ q, q < H.size → A1 q → A0 q) (hf : ∀ q, free q → A0 q) (hAX : ∀ q, q < H.size → AX q → A0 q)
    (kx : ∀ (E : String) (ce : Cell) (q9 : Addr) (u : SX) (t : State) (H1 : Heap) (locs1 : List Loc), t.heap = H1 → s.vm.Alike t.vm → px u → BX E u t → H.size ≤ H1.size → (∀ q : Nat, q < H.size → ¬ AX q → H1[q]? = H[q]?) → va_S A0 H0 H1 locs1 → H1[q9]? = some ce → ce.vm = .none → s.vm.findClass E = some ce.cls → vx_W p l e R s m args below meth c H1 locs1 (cells + mc) (slots + ms) Q (F0 m pc ls rest) q9)
    (kk : ∀ (r : Int32) (u : S) (t : State) (H1 : Heap) (locs1 : List Loc), t.heap = H1 → s.vm.Alike t.vm → post r u → B u t → H.size ≤ H1.size → (∀ q : Nat, q < H.size → ¬ A1 q → H1[q]? = H[q]?) → va_S A0 H0 H1 locs1 → W p l e R s m args below meth c H1 locs1 (cells + mc) (slots + ms) Q (F0 m (pc + 3) ls (.int r :: rest))) : W p l e R s m args below meth c H locs cells slots Q (F0 m pc ls st0) := by
  intro T hT X
  rcases hr T hT X with ⟨v, st₀, t, T', L, h0, X', hL, e1, e2, ⟨⟨r, u, hv, hp, hb⟩, hF⟩, st⟩ | ⟨q, st₀, t, T', L, E, ce, h0, X', hL, e1, e2, ⟨u, hp, hb, hF⟩, hce, hcv, hcl, st⟩
  · cases hv
    obtain ⟨k1, k2, k3⟩ := vx_keep h0 e1 hS hA hf hL hF
    obtain ⟨t2, a1, b1⟩ := kk r u t T'.heap (locs ++ L) e1.symm (by rw [← e2]; exact X'.warmed.alike) hp hb k1 k2 k3 T' rfl X'
    exact ⟨t2, st t2 a1, b1⟩
  · obtain ⟨k1, k2, k3⟩ := vx_keep h0 e1 hS hAX hf hL hF
    obtain ⟨t2, a1, b1⟩ := kx E ce q u t T'.heap (locs ++ L) e1.symm (by rw [← e2]; exact X'.warmed.alike) hp hb k1 k2 k3 (by rw [e1]; exact hce) hcv hcl T' rfl X'
    exact ⟨t2, st.trans a1, b1⟩
theorem vx_calll {S SX : Type} {post : Int64 → S → Prop} {px : SX → Prop} {B : S → State → Prop} {BX : String → SX → State → Prop} {AX : Nat → Prop} (hr : vx_Run p l e R s m args below meth c H locs cells slots mc ms (F0 m pc ls st0) rest (va_Ql post B A1 a) (vx_X px BX AX) free) (hS : va_S A0 H0 H locs) (hA : ∀ q, q < H.size → A1 q → A0 q) (hf : ∀ q, free q → A0 q) (hAX : ∀ q, q < H.size → AX q → A0 q)
    (kx : ∀ (E : String) (ce : Cell) (q9 : Addr) (u : SX) (t : State) (H1 : Heap) (locs1 : List Loc), t.heap = H1 → s.vm.Alike t.vm → px u → BX E u t → H.size ≤ H1.size → (∀ q : Nat, q < H.size → ¬ AX q → H1[q]? = H[q]?) → va_S A0 H0 H1 locs1 → H1[q9]? = some ce → ce.vm = .none → s.vm.findClass E = some ce.cls → vx_W p l e R s m args below meth c H1 locs1 (cells + mc) (slots + ms) Q (F0 m pc ls rest) q9)
    (kk : ∀ (r : Int64) (u : S) (t : State) (H1 : Heap) (locs1 : List Loc), t.heap = H1 → s.vm.Alike t.vm → post r u → B u t → H.size ≤ H1.size → (∀ q : Nat, q < H.size → ¬ A1 q → H1[q]? = H[q]?) → va_S A0 H0 H1 locs1 → W p l e R s m args below meth c H1 locs1 (cells + mc) (slots + ms) Q (F0 m (pc + 3) ls (.long r :: rest))) : W p l e R s m args below meth c H locs cells slots Q (F0 m pc ls st0) := by
  intro T hT X
  rcases hr T hT X with ⟨v, st₀, t, T', L, h0, X', hL, e1, e2, ⟨⟨r, u, hv, hp, hb⟩, hF⟩, st⟩ | ⟨q, st₀, t, T', L, E, ce, h0, X', hL, e1, e2, ⟨u, hp, hb, hF⟩, hce, hcv, hcl, st⟩
  · cases hv
    obtain ⟨k1, k2, k3⟩ := vx_keep h0 e1 hS hA hf hL hF
    obtain ⟨t2, a1, b1⟩ := kk r u t T'.heap (locs ++ L) e1.symm (by rw [← e2]; exact X'.warmed.alike) hp hb k1 k2 k3 T' rfl X'
    exact ⟨t2, st t2 a1, b1⟩
  · obtain ⟨k1, k2, k3⟩ := vx_keep h0 e1 hS hAX hf hL hF
    obtain ⟨t2, a1, b1⟩ := kx E ce q u t T'.heap (locs ++ L) e1.symm (by rw [← e2]; exact X'.warmed.alike) hp hb k1 k2 k3 (by rw [e1]; exact hce) hcv hcl T' rfl X'
    exact ⟨t2, st.trans a1, b1⟩
theorem vx_callf {S SX : Type} {post : UInt32 → S → Prop} {px : SX → Prop} {B : S → State → Prop} {BX : String → SX → State → Prop} {AX : Nat → Prop} (hr : vx_Run p l e R s m args below meth c H locs cells slots mc ms (F0 m pc ls st0) rest (va_Qf post B A1 a) (vx_X px BX AX) free) (hS : va_S A0 H0 H locs) (hA : ∀ q, q < H.size → A1 q → A0 q) (hf : ∀ q, free q → A0 q) (hAX : ∀ q, q < H.size → AX q → A0 q)
    (kx : ∀ (E : String) (ce : Cell) (q9 : Addr) (u : SX) (t : State) (H1 : Heap) (locs1 : List Loc), t.heap = H1 → s.vm.Alike t.vm → px u → BX E u t → H.size ≤ H1.size → (∀ q : Nat, q < H.size → ¬ AX q → H1[q]? = H[q]?) → va_S A0 H0 H1 locs1 → H1[q9]? = some ce → ce.vm = .none → s.vm.findClass E = some ce.cls → vx_W p l e R s m args below meth c H1 locs1 (cells + mc) (slots + ms) Q (F0 m pc ls rest) q9)
    (kk : ∀ (r : UInt32) (u : S) (t : State) (H1 : Heap) (locs1 : List Loc), t.heap = H1 → s.vm.Alike t.vm → post r u → B u t → H.size ≤ H1.size → (∀ q : Nat, q < H.size → ¬ A1 q → H1[q]? = H[q]?) → va_S A0 H0 H1 locs1 → W p l e R s m args below meth c H1 locs1 (cells + mc) (slots + ms) Q (F0 m (pc + 3) ls (.float r :: rest))) : W p l e R s m args below meth c H locs cells slots Q (F0 m pc ls st0) := by
  intro T hT X
  rcases hr T hT X with ⟨v, st₀, t, T', L, h0, X', hL, e1, e2, ⟨⟨r, u, hv, hp, hb⟩, hF⟩, st⟩ | ⟨q, st₀, t, T', L, E, ce, h0, X', hL, e1, e2, ⟨u, hp, hb, hF⟩, hce, hcv, hcl, st⟩
  · cases hv
    obtain ⟨k1, k2, k3⟩ := vx_keep h0 e1 hS hA hf hL hF
    obtain ⟨t2, a1, b1⟩ := kk r u t T'.heap (locs ++ L) e1.symm (by rw [← e2]; exact X'.warmed.alike) hp hb k1 k2 k3 T' rfl X'
    exact ⟨t2, st t2 a1, b1⟩
  · obtain ⟨k1, k2, k3⟩ := vx_keep h0 e1 hS hAX hf hL hF
    obtain ⟨t2, a1, b1⟩ := kx E ce q u t T'.heap (locs ++ L) e1.symm (by rw [← e2]; exact X'.warmed.alike) hp hb k1 k2 k3 (by rw [e1]; exact hce) hcv hcl T' rfl X'
    exact ⟨t2, st.trans a1, b1⟩
theorem vx_calld {S SX : Type} {post : UInt64 → S → Prop} {px : SX → Prop} {B : S → State → Prop} {BX : String → SX → State → Prop} {AX : Nat → Prop} (hr : vx_Run p l e R s m args below meth c H locs cells slots mc ms (F0 m pc ls st0) rest (va_Qd post B A1 a) (vx_X px BX AX) free) (hS : va_S A0 H0 H locs) (hA : ∀ q, q < H.size → A1 q → A0 q) (hf : ∀ q, free q → A0 q) (hAX : ∀ q, q < H.size → AX q → A0 q)
    (kx : ∀ (E : String) (ce : Cell) (q9 : Addr) (u : SX) (t : State) (H1 : Heap) (locs1 : List Loc), t.heap = H1 → s.vm.Alike t.vm → px u → BX E u t → H.size ≤ H1.size → (∀ q : Nat, q < H.size → ¬ AX q → H1[q]? = H[q]?) → va_S A0 H0 H1 locs1 → H1[q9]? = some ce → ce.vm = .none → s.vm.findClass E = some ce.cls → vx_W p l e R s m args below meth c H1 locs1 (cells + mc) (slots + ms) Q (F0 m pc ls rest) q9)
    (kk : ∀ (r : UInt64) (u : S) (t : State) (H1 : Heap) (locs1 : List Loc), t.heap = H1 → s.vm.Alike t.vm → post r u → B u t → H.size ≤ H1.size → (∀ q : Nat, q < H.size → ¬ A1 q → H1[q]? = H[q]?) → va_S A0 H0 H1 locs1 → W p l e R s m args below meth c H1 locs1 (cells + mc) (slots + ms) Q (F0 m (pc + 3) ls (.double r :: rest))) : W p l e R s m args below meth c H locs cells slots Q (F0 m pc ls st0) := by
  intro T hT X
  rcases hr T hT X with ⟨v, st₀, t, T', L, h0, X', hL, e1, e2, ⟨⟨r, u, hv, hp, hb⟩, hF⟩, st⟩ | ⟨q, st₀, t, T', L, E, ce, h0, X', hL, e1, e2, ⟨u, hp, hb, hF⟩, hce, hcv, hcl, st⟩
  · cases hv
    obtain ⟨k1, k2, k3⟩ := vx_keep h0 e1 hS hA hf hL hF
    obtain ⟨t2, a1, b1⟩ := kk r u t T'.heap (locs ++ L) e1.symm (by rw [← e2]; exact X'.warmed.alike) hp hb k1 k2 k3 T' rfl X'
    exact ⟨t2, st t2 a1, b1⟩
  · obtain ⟨k1, k2, k3⟩ := vx_keep h0 e1 hS hAX hf hL hF
    obtain ⟨t2, a1, b1⟩ := kx E ce q u t T'.heap (locs ++ L) e1.symm (by rw [← e2]; exact X'.warmed.alike) hp hb k1 k2 k3 (by rw [e1]; exact hce) hcv hcl T' rfl X'
    exact ⟨t2, st.trans a1, b1⟩
theorem vx_callv {S SX : Type} {post : S → Prop} {px : SX → Prop} {B : S → State → Prop} {BX : String → SX → State → Prop} {AX : Nat → Prop} (hr : vx_Run p l e R s m args below meth c H locs cells slots mc ms (F0 m pc ls st0) rest (va_Qv post B A1 a) (vx_X px BX AX) free) (hS : va_S A0 H0 H locs) (hA : ∀ q, q < H.size → A1 q → A0 q) (hf : ∀ q, free q → A0 q) (hAX : ∀ q, q < H.size → AX q → A0 q)
    (kx : ∀ (E : String) (ce : Cell) (q9 : Addr) (u : SX) (t : State) (H1 : Heap) (locs1 : List Loc), t.heap = H1 → s.vm.Alike t.vm → px u → BX E u t → H.size ≤ H1.size → (∀ q : Nat, q < H.size → ¬ AX q → H1[q]? = H[q]?) → va_S A0 H0 H1 locs1 → H1[q9]? = some ce → ce.vm = .none → s.vm.findClass E = some ce.cls → vx_W p l e R s m args below meth c H1 locs1 (cells + mc) (slots + ms) Q (F0 m pc ls rest) q9)
    (kk : ∀ (u : S) (t : State) (H1 : Heap) (locs1 : List Loc), t.heap = H1 → s.vm.Alike t.vm → post u → B u t → H.size ≤ H1.size → (∀ q : Nat, q < H.size → ¬ A1 q → H1[q]? = H[q]?) → va_S A0 H0 H1 locs1 → W p l e R s m args below meth c H1 locs1 (cells + mc) (slots + ms) Q (F0 m (pc + 3) ls (rest))) : W p l e R s m args below meth c H locs cells slots Q (F0 m pc ls st0) := by
  intro T hT X
  rcases hr T hT X with ⟨v, st₀, t, T', L, h0, X', hL, e1, e2, ⟨⟨u, hv, hp, hb⟩, hF⟩, st⟩ | ⟨q, st₀, t, T', L, E, ce, h0, X', hL, e1, e2, ⟨u, hp, hb, hF⟩, hce, hcv, hcl, st⟩
  · cases hv
    obtain ⟨k1, k2, k3⟩ := vx_keep h0 e1 hS hA hf hL hF
    obtain ⟨t2, a1, b1⟩ := kk u t T'.heap (locs ++ L) e1.symm (by rw [← e2]; exact X'.warmed.alike) hp hb k1 k2 k3 T' rfl X'
    exact ⟨t2, st t2 a1, b1⟩
  · obtain ⟨k1, k2, k3⟩ := vx_keep h0 e1 hS hAX hf hL hF
    obtain ⟨t2, a1, b1⟩ := kx E ce q u t T'.heap (locs ++ L) e1.symm (by rw [← e2]; exact X'.warmed.alike) hp hb k1 k2 k3 (by rw [e1]; exact hce) hcv hcl T' rfl X'
    exact ⟨t2, st.trans a1, b1⟩
/-- caught by the row x of this method's table; the rows ahead don't take it -/
theorem vx_catch {own name : String} {E : String} {ce : Cell} {q : Addr} (hown : s.vm.findClass own = some m.cls) (pre : List ExceptionTableEntry) (x : ExceptionTableEntry) (suf : List ExceptionTableEntry) (hsplit : c.exceptionTable.toList = pre ++ x :: suf)
    (hpass : ∀ z ∈ pre, covers z pc = false ∨ (z.catchType ≠ 0 ∧ ∃ nm : String, (Cond.classLink own z.catchType nm).before args s = true ∧ va_Nc E nm s)) (hx : covers x pc = true) (h0 : x.catchType ≠ 0)
    (hlink : (Cond.classLink own x.catchType name).before args s = true) (hcast : (Cond.castable E name).before args s = true) (hcell : H[q]? = some ce) (hv : ce.vm = .none) (hcl : s.vm.findClass E = some ce.cls)
    (kk : W p l e R s m args below meth c H locs cells slots Q (F0 m x.handlerPc ls [.ref q])) : vx_W p l e R s m args below meth c H locs cells slots Q (F0 m pc ls rest) q := by
  intro T hT X
  have hpl : e.platform.magicAccessors = ({} : Platform).magicAccessors := by rw [X.admits.platform]
  obtain ⟨c3, c4, hc3, hc4, hasg⟩ := Cond.castable_spec hcast
  cases Option.some.inj (hc3.symm.trans hcl)
  obtain ⟨c5, hc5, hcl5⟩ := Cond.classLink_spec hown hlink e.platform hpl
  cases Option.some.inj (hc4.symm.trans hc5)
  obtain ⟨vm', X', st⟩ := X.thenCaughtThrough q (g := F0 m pc ls rest) rfl (Steps.refl _) (by rw [hT]; exact hcell) (by rw [hv]; rfl) (by obtain ⟨k9, h9, -⟩ := Vm.findClass_spec hcl; exact ⟨k9, h9⟩) pre x suf hsplit
    (fun z hz => by
      rcases hpass z hz with h | ⟨hz0, nm, hl1, hn1⟩
      · exact Or.inl h
      · obtain ⟨c6, hc6, hcl6⟩ := Cond.classLink_spec hown hl1 e.platform hpl
        obtain ⟨a8, b8, h1, h2, h3⟩ := hn1
        cases Option.some.inj (h1.symm.trans hcl)
        cases Option.some.inj (h2.symm.trans hc6)
        exact Or.inr ⟨hz0, _, hcl6, h3⟩) hx (Or.inr ⟨h0, c4, hcl5, hasg⟩)
  obtain ⟨t, a1, b1⟩ := kk (T.setVm vm') hT X'
  exact ⟨t, st.trans a1, b1⟩
end Rows
section Ends
variable {p : Program} {l : Launch} {e : Env} {R : Room} {s : State} {m : MethodId} {args : Array Value} {below : List Frame} {meth : Method} {c : Code} {H : Heap} {locs : List Loc} {cells slots : Nat} {Q : State → Prop}
variable {mc ms : Nat} {free : Addr → Prop} {A0 A1 : Nat → Prop} {H0 : Heap} {a : Array Value} {ls : Array Slot} {st0 rest : List Value}
variable {Qc : Array Value → State → Outcome → State → Prop} {XC : String → State → State → Prop}
/-- what a body that may throw owes at its end -/
def vx_MQ (below : List Frame) (Qc : Array Value → State → Outcome → State → Prop) (XC : String → State → State → Prop) (a : Array Value) (s : State) (mc ms : Nat) (free : Addr → Prop) : State → Prop := fun t =>
  ∃ o, t.status = .running ∧ Ended t below o ∧ vx_Q Qc XC mc ms free a s o t
theorem vx_ret {g : JFrame} {mc ms : Nat} (k : W p l e R s m args below meth c H locs cells slots (MQ below Qc args s mc ms free) g) : W p l e R s m args below meth c H locs cells slots (vx_MQ below Qc XC args s mc ms free) g := by
  intro T hT X
  obtain ⟨t, a1, o, b1, b2, b3, b4⟩ := k T hT X
  exact ⟨t, a1, o, b1, b2, Or.inl ⟨b3, b4⟩⟩
/-- not caught here: it goes on to the caller -/
theorem vx_widen {g : JFrame} {q : Addr} {k n : Nat} (h1 : cells ≤ k) (h2 : slots ≤ n) (kk : vx_W p l e R s m args below meth c H locs k n Q g q) : vx_W p l e R s m args below meth c H locs cells slots Q g q := fun T hT X => kk T hT (stand_widen X h1 h2)
theorem vx_out {pc : Nat} {E : String} {ce : Cell} {q : Addr} {mc ms : Nat} (hout : ∀ x ∈ c.exceptionTable.toList, covers x pc = false) (hlocks : meth.locks = false) (hcell : H[q]? = some ce) (hv : ce.vm = .none) (hcl : s.vm.findClass E = some ce.cls)
    (hx : ∀ t : State, t.heap = H → s.vm.Alike t.vm → XC E s t) (hf : ∀ z ∈ locs, free z.base) (hc : cells ≤ mc) (hs : slots ≤ ms) :
    vx_W p l e R s m args below meth c H locs cells slots (vx_MQ below Qc XC args s mc ms free) (F0 m pc ls rest) q := by
  intro T hT X
  obtain ⟨st1, hrun, hend, hW, hsm⟩ := X.leaveThrown q (g := F0 m pc ls rest) rfl rfl rfl hout hlocks
  have hcell9 : (T.setFrames (.throwing q :: below)).heap[q]? = some ce := by
    show T.heap[q]? = some ce
    rw [hT]; exact hcell
  exact ⟨_, st1, .threw q, hrun, hend, Or.inr ⟨q, rfl, E, ce, locs, hx _ hT hW.alike, hcell9, hv, hcl, hW, hsm.mono hc hs, hf⟩⟩
theorem vx_frame {U : State} {k n : Nat} (h : s.sameButNew ({ U with vm := s.vm } : State) locs k n) : s.heap.size ≤ U.heap.size ∧ ∀ q : Nat, q < s.heap.size → (∀ z ∈ locs, z.base ≠ q) → U.heap[q]? = s.heap[q]? := by
  obtain ⟨-, h2, -, -, -, h6⟩ := h
  refine ⟨h2, fun q hq hz => ?_⟩
  obtain ⟨c9, e1, e2, e3, e4⟩ := h6 q _ (Array.getElem?_eq_getElem hq)
  have hs : c9.slots = (s.heap[q]).slots := Array.ext_getElem? fun i => e4 i fun hm => hz _ hm rfl
  have h9 : c9 = s.heap[q] := by
    rw [hs] at e2
    exact e2
  have e5 : U.heap[q]? = some c9 := e1
  rw [e5, h9, Array.getElem?_eq_getElem hq]
/-- the words of a throw but the four that speak of the heap -/
def vx_no (w : Cond) : Bool := decide (w ≠ .isRef (.static Bundle.tN "UNASSIGNED_STACK" Bundle.steD)) && decide (w ≠ .isRef (.static Bundle.tN "SUPPRESSED_SENTINEL" Bundle.listD)) && decide (w ≠ .laysStatic Bundle.tN "UNASSIGNED_STACK" Bundle.steD) && decide (w ≠ .laysStatic Bundle.tN "SUPPRESSED_SENTINEL" Bundle.listD)
def vx_at0 (own : String) (ic : Nat) (X : String) (names : List String) : List Cond := (Bundle.ownAtoms0 own ic X names).filter vx_no
def vx_atS (own : String) (ic : Nat) (X : String) (names : List String) : List Cond := (Bundle.ownAtoms own ic X names).filter vx_no
/-- a word that the tables alone decide, or a good one -/
def vx_ot (w : Cond) : Bool := w.onTables || goodWord w
theorem vx_ot_at {args a' : Array Value} {s U : State} {w : Cond} (hW : s.WarmedH U.vm) (hvm : s.vm = U.vm) (hg : vx_ot w = true) (h : w.before args s = true) : w.before a' U = true := by
  simp only [vx_ot, Bool.or_eq_true] at hg
  rcases hg with hg | hg
  · exact va_tabs hg hvm h
  · exact word_at hW (good_of_word hg) h
/-- a list's words: the good ones out of the method's own list, the others by premises of their own -/
theorem vx_hat {args : Array Value} {s : State} {L B : List Cond} (h1 : ∀ w ∈ L.filter goodWord, w.before args s = true) (h2 : ∀ w ∈ L.filter (fun w => !goodWord w), w ∈ B) (h3 : ∀ w ∈ B, w.before args s = true) : ∀ w ∈ L, w.before args s = true := by
  intro w hw
  by_cases g : goodWord w = true
  · exact h1 w (List.mem_filter.mpr ⟨hw, g⟩)
  · refine h3 w (h2 w (List.mem_filter.mpr ⟨hw, ?_⟩))
    show (!goodWord w) = true
    cases hgw : goodWord w
    · rfl
    · exact absurd hgw g
theorem vx_c {args : Array Value} {s : State} {w : Cond} {B : List Cond} (h : w.before args s = true) (t : ∀ w ∈ B, w.before args s = true) : ∀ w' ∈ w :: B, w'.before args s = true := fun w' h' => (List.mem_cons.mp h').elim (fun e => by rw [e]; exact h) (t w')
theorem vx_n {args : Array Value} {s : State} : ∀ w ∈ ([] : List Cond), w.before args s = true := fun _ h => nomatch h
theorem vx_own {args : Array Value} {s : State} {L : List Cond} (h1 : ∀ w ∈ L.filter vx_no, w.before args s = true)
    (hU : (Cond.isRef (.static Bundle.tN "UNASSIGNED_STACK" Bundle.steD)).before args s = true) (hN : (Cond.isRef (.static Bundle.tN "SUPPRESSED_SENTINEL" Bundle.listD)).before args s = true)
    (lU : (Cond.laysStatic Bundle.tN "UNASSIGNED_STACK" Bundle.steD).before args s = true) (lN : (Cond.laysStatic Bundle.tN "SUPPRESSED_SENTINEL" Bundle.listD).before args s = true) : ∀ w ∈ L, w.before args s = true := by
  intro w hw
  by_cases e1 : w = .isRef (.static Bundle.tN "UNASSIGNED_STACK" Bundle.steD)
  · rw [e1]; exact hU
  · by_cases e2 : w = .isRef (.static Bundle.tN "SUPPRESSED_SENTINEL" Bundle.listD)
    · rw [e2]; exact hN
    · by_cases e3 : w = .laysStatic Bundle.tN "UNASSIGNED_STACK" Bundle.steD
      · rw [e3]; exact lU
      · by_cases e4 : w = .laysStatic Bundle.tN "SUPPRESSED_SENTINEL" Bundle.listD
        · rw [e4]; exact lN
        · exact h1 w (List.mem_filter.mpr ⟨hw, by unfold vx_no; rw [decide_eq_true e1, decide_eq_true e2, decide_eq_true e3, decide_eq_true e4]; rfl⟩)
/-- where a static field lies, its class's statics cell in H -/
def vx_L (C n d : String) (A : Nat → Prop) (U : State) (H : Heap) : Prop := ∃ (c : ClassId) (k : Class) (i : Nat) (f : Field) (a : Nat) (cell : Cell), U.vm.findClass C = some c ∧ U.fieldFound? C n d = some (c, k, i, f) ∧ f.isStatic = true ∧ k.statics = some a ∧ H[a]? = some cell ∧ cell.vm.isStatics = true ∧ cell.cls = c ∧ f.slot < cell.slots.size ∧ k.staticTypes[f.slot]? = some f.type ∧ ¬ A a
theorem vx_L.moved {C n d : String} {A : Nat → Prop} {u U : State} {H : Heap} (hvm : u.vm.Alike U.vm) (h : vx_L C n d A u H) : vx_L C n d A U H := by
  obtain ⟨c, k, i, f, a, cell, h1, h2, h3, h4, h5, h6, h7, h8, h9, h10⟩ := h
  obtain ⟨k', hi', he⟩ := State.fieldFound?_setVm hvm h2
  exact ⟨c, k', i, f, a, cell, by rw [hvm.findClass]; exact h1, hi', h3, by rw [he]; exact h4, h5, h6, h7, h8, by rw [he]; exact h9, h10⟩
theorem vx_L.kept {C n d : String} {A : Nat → Prop} {U : State} {H H1 : Heap} (h : vx_L C n d A U H) (hq : ∀ a : Nat, a < H.size → ¬ A a → H1[a]? = H[a]?) : vx_L C n d A U H1 := by
  obtain ⟨c, k, i, f, a, cell, h1, h2, h3, h4, h5, h6, h7, h8, h9, h10⟩ := h
  exact ⟨c, k, i, f, a, cell, h1, h2, h3, h4, by rw [hq a (Array.getElem?_eq_some_iff.mp h5).1 h10]; exact h5, h6, h7, h8, h9, h10⟩
theorem vx_L.narrow {C n d : String} {A B : Nat → Prop} {U : State} {H : Heap} (h : vx_L C n d A U H) (hAB : ∀ q, B q → A q) : vx_L C n d B U H := by
  obtain ⟨c, k, i, f, a, cell, h1, h2, h3, h4, h5, h6, h7, h8, h9, h10⟩ := h
  exact ⟨c, k, i, f, a, cell, h1, h2, h3, h4, h5, h6, h7, h8, h9, fun z => h10 (hAB _ z)⟩
theorem vx_L.word {C n d : String} {A : Nat → Prop} {s : State} {args : Array Value} (h : vx_L C n d A s s.heap) : (Cond.laysStatic C n d).before args s = true := by
  obtain ⟨c, k, i, f, a, cell, h1, h2, h3, h4, h5, h6, h7, h8, h9, -⟩ := h
  show (Cond.laysStatic C n d).holds args s none s [] = true
  exact Cond.laysStatic_of h1 h2 h3 h4 h5 h6 h7 h8 h9
/-- .. and what it holds: null or some reference -/
def vx_Zq (C n d : String) (A : Nat → Prop) (U : State) (H : Heap) : Prop := va_Zq C n d A U H ∧ vx_L C n d A U H
theorem vx_Zq.moved {C n d : String} {A : Nat → Prop} {u U : State} {H : Heap} (hvm : u.vm.Alike U.vm) (h : vx_Zq C n d A u H) : vx_Zq C n d A U H := ⟨va_Zq.moved hvm h.1, vx_L.moved hvm h.2⟩
theorem vx_Zq.kept {C n d : String} {A : Nat → Prop} {U : State} {H H1 : Heap} (h : vx_Zq C n d A U H) (hq : ∀ a : Nat, a < H.size → ¬ A a → H1[a]? = H[a]?) : vx_Zq C n d A U H1 := ⟨va_Zq.kept h.1 hq, vx_L.kept h.2 hq⟩
theorem vx_Zq.narrow {C n d : String} {A B : Nat → Prop} {U : State} {H : Heap} (h : vx_Zq C n d A U H) (hAB : ∀ q, B q → A q) : vx_Zq C n d B U H := ⟨va_Zq.narrow h.1 hAB, vx_L.narrow h.2 hAB⟩
theorem vx_Zqof {args : Array Value} {s : State} {C n d : String} {A : Nat → Prop} (hl : (Cond.laysStatic C n d).before args s = true) (hini : (Cond.initialized C).before args s = true) (h : (Cond.isRef (.static C n d)).before args s = true) (hA : ∀ a : Nat, a < s.heap.size → ¬ A a) : vx_Zq C n d A s s.heap := by
  refine ⟨va_Zqof hl hini h hA, ?_⟩
  obtain ⟨c, k, i, f, a, cell, h1, h2, h3, h4, h5, h6, h7, h8, h9⟩ := Cond.laysStatic_spec hl
  exact ⟨c, k, i, f, a, cell, h1, h2, h3, h4, h5, h6, h7, h8, h9, hA a (Array.getElem?_eq_some_iff.mp h5).1⟩
theorem vx_isRef {C n d : String} {v : Value} {A : Nat → Prop} {s : State} {args : Array Value} (h : va_Z C n d v A s s.heap) (hv : v.isRef = true) : (Cond.isRef (.static C n d)).before args s = true := by
  obtain ⟨cf, kf, fi, f, a, cell, h1, h2, h3, h4, h5, h6, h7, -⟩ := h
  have he : (Term.static C n d).eval args s none [] s = some v := by
    simp [Term.eval, State.fieldNamed?, h1, h2, h4, h5, h6, h7]
  simp only [Cond.before, Cond.holds, Cond.value, he]
  cases v <;> simp_all [Value.isRef]
theorem vx_isRefq {C n d : String} {A : Nat → Prop} {s : State} {args : Array Value} (h : va_Zq C n d A s s.heap) : (Cond.isRef (.static C n d)).before args s = true := by
  rcases h with h | ⟨t, h⟩
  · exact vx_isRef h rfl
  · exact vx_isRef h rfl
/-- the same frame, seen from here: as if the method were called anew in this heap -/
theorem vx_rebase {T : State} (X : Stand p l e R s m args below meth c T locs cells slots) {R' : Room} (hf : R'.frames ≤ R.frames) (hl : R'.locals ≤ R.locals) (hc : cells + R'.cells ≤ R.cells) (hs : slots + R'.slots ≤ R.slots) :
    Stand p l e R' ((T.setVm s.vm).setFrames (.invoking m args :: below)) m args below meth c T [] 0 0 := by
  have htop : (T.setVm s.vm).topJava?.isSome := X.here.top
  have hF : ((T.setVm s.vm).setFrames (.invoking m args :: below)).frames = .invoking m args :: below := State.frames_setFrames _ (State.cur_lt_of_top htop)
  obtain ⟨g₀, hg0⟩ := Option.isSome_iff_exists.mp htop
  obtain ⟨r, hr⟩ := State.topJava?_eq_some.mp hg0
  have hl9 : e.platform.stackLimits (T.setVm s.vm).me = e.platform.stackLimits s.me := X.limits
  have hb9 : (T.setVm s.vm).me.stackBytes = s.me.stackBytes := X.bytes
  refine ⟨X.admits, X.cas, X.clock, hF, ?_, X.hears, X.method, X.code, X.here, X.tail, X.warmed, ?_, ?_, ?_⟩
  · have h := X.room
    have hU : ((T.setVm s.vm).setFrames (.invoking m args :: below)).localsInUse = s.localsInUse := by
      rw [State.localsInUse_invoking hF (meth := meth) (c := c) X.method X.code, State.localsInUse_invoking X.frames X.method X.code]
    simp only [State.hasRoom, Bool.and_eq_true, decide_eq_true_eq] at h ⊢
    obtain ⟨⟨⟨⟨h1, h2, h3, h4, h5, h6⟩, h7⟩, h8⟩, h9⟩ := h
    rw [X.frames, List.length_cons] at h2 h3
    have q1 := X.heapSize
    have q2 := X.used
    simp only [hF, hU, List.length_cons, State.stackLimits_setFrames, State.stackBytes_setFrames, hl9, hb9]
    refine ⟨⟨⟨⟨by omega, by omega, by omega, by omega, by omega, h6⟩, ?_⟩, ?_⟩, X.book⟩
    · show T.heap.size + R'.cells ≤ e.platform.maxCells
      omega
    · show T.slotsUsed + R'.slots ≤ e.platform.maxSlots
      omega
  · rw [State.stackLimits_setFrames]; rfl
  · rw [State.stackBytes_setFrames]; rfl
  · refine ⟨?_, Nat.le_refl _, Nat.le_refl _, ?_, ?_, fun a c9 h9 => ⟨c9, h9, rfl, rfl, fun _ _ => rfl⟩⟩
    · obtain ⟨t, ht, -⟩ := State.frames_cons hr
      show T.setVm s.vm = { ((T.setVm s.vm).setFrames (.invoking m args :: below)).setFrames (T.setVm s.vm).frames with heap := T.heap, slotsUsed := T.slotsUsed }
      rw [State.setFrames_setFrames, State.setFrames_self ht]
      rfl
    · show T.slotsUsed = T.slotsUsed + ((T.heap.toList.drop T.heap.size).map (·.slots.size)).sum
      rw [List.drop_eq_nil_of_le (Nat.le_of_eq Array.length_toList)]
      rfl
    · show ((T.heap.toList.drop T.heap.size).map (·.slots.size)).sum ≤ 0
      rw [List.drop_eq_nil_of_le (Nat.le_of_eq Array.length_toList)]
      exact Nat.le_refl _
/-- 'throw new E()': new; dup; invokespecial; athrow -/
theorem vx_throw0 {cc : ByteArray} {pc : Nat} (hexec : p.tables.exec = Jvm.exec) (hb : c.code = cc) (hl : l.stackTraces = false) {own cls : String} {names : List String} {ik ic mc ms : Nat} {A : Nat → Prop}
    (hown : s.vm.findClass own = some m.cls) (hcls : Bundle.fit cls = true) (hnames : ∀ n ∈ names, Bundle.fit n = true)
    (hk : (Cond.classLink own ik cls).before args s = true) (hini : (Cond.initialized cls).before args s = true) (hat : ∀ w ∈ vx_at0 own ic cls names, w.before args s = true)
    (hgood : ∀ w ∈ Cond.classLink own ik cls :: Cond.initialized cls :: vx_at0 own ic cls names, vx_ot w = true)
    (hU : vx_Zq Bundle.tN "UNASSIGNED_STACK" Bundle.steD A s s.heap) (hN : vx_Zq Bundle.tN "SUPPRESSED_SENTINEL" Bundle.listD A s s.heap) (hS : va_S A s.heap H locs) (hsize : ls.size = c.maxLocals)
    (d0 : decode cc pc = .ok (.new ik, 3)) (d3 : decode cc (pc + 3) = .ok (.dup, 1)) (d4 : decode cc (pc + 4) = .ok (.invokespecial ic, 3)) (d7 : decode cc (pc + 7) = .ok (.athrow, 1))
    (hout : ∀ x ∈ c.exceptionTable.toList, covers x (pc + 7) = false)
    (hRframes : names.length + 3 < R.frames) (hRlocals : (rest.map fun v => v.category).sum + (13 * (names.length + 1) + 42) ≤ R.locals) (hRcells : cells + 1 ≤ R.cells) (hRslots : slots + 6 ≤ R.slots) (hlocks : meth.locks = false)
    (hx : ∀ t : State, s.vm.Alike t.vm → H.size ≤ t.heap.size → (∀ q : Nat, q < H.size → t.heap[q]? = H[q]?) → XC cls s t)
    (hf : ∀ z ∈ locs, free z.base) (hc : cells + 1 ≤ mc) (hs : slots + 6 ≤ ms) :
    W p l e R s m args below meth c H locs cells slots (vx_MQ below Qc XC args s mc ms free) (F0 m pc ls rest) := by
  intro T hT X
  have htr : e.platform.stackTraces = false := (show e.platform.stackTraces = l.stackTraces by rw [X.admits.platform]).trans hl
  have Y := vx_rebase X (R' := { frames := R.frames, locals := R.locals, cells := 1, slots := 6 }) (Nat.le_refl _) (Nat.le_refl _) hRcells hRslots
  obtain ⟨s', hA⟩ : ∃ z, z = (T.setVm s.vm).setFrames (.invoking m args :: below) := ⟨_, rfl⟩
  rw [← hA] at Y
  have hvm : s'.vm = s.vm := by rw [hA]; rfl
  have hhp : s'.heap = H := by rw [hA]; exact hT
  have hW0 : s.WarmedH s'.vm := by rw [hvm]; exact State.WarmedH.refl s
  have hat' : ∀ w ∈ vx_at0 own ic cls names, w.before args s' = true := fun w hw => vx_ot_at hW0 hvm.symm (hgood w (List.mem_cons_of_mem _ (List.mem_cons_of_mem _ hw))) (hat w hw)
  have hk' : (Cond.classLink own ik cls).before args s' = true := vx_ot_at hW0 hvm.symm (hgood _ List.mem_cons_self) hk
  have hini' : (Cond.initialized cls).before args s' = true := vx_ot_at hW0 hvm.symm (hgood _ (List.mem_cons_of_mem _ List.mem_cons_self)) hini
  have hU' : vx_Zq Bundle.tN "UNASSIGNED_STACK" Bundle.steD A s' s'.heap := by rw [hhp]; exact vx_Zq.moved hW0.alike (hU.kept hS.2.1)
  have hN' : vx_Zq Bundle.tN "SUPPRESSED_SENTINEL" Bundle.listD A s' s'.heap := by rw [hhp]; exact vx_Zq.moved hW0.alike (hN.kept hS.2.1)
  have h : ∀ w ∈ Bundle.ownAtoms0 own ic cls names, w.before args s' = true := vx_own hat' (vx_isRefq hU'.1) (vx_isRefq hN'.1) hU'.2.word hN'.2.word
  have hown' : s'.vm.findClass own = some m.cls := by rw [hvm]; exact hown
  have hins : (Cond.instantiable cls 6).before args s' = true := h _ (by simp [Bundle.ownAtoms0])
  obtain ⟨vm₁, cX, kX, hfX, hkX, -, -, X₁, st1⟩ := Y.newCold hexec (own := own) (C := cls) (index := ik) (n := 6) hown' hk' hins hini'
    (g := F0 m pc ls rest) rfl (by rw [hb]; exact d0) (Nat.le_refl _) (Nat.le_refl _)
  generalize hT1 : (T.setVm vm₁).pushCell { cls := cX, slots := kX.instanceTypes.map defaultValue, vm := .none } = T1 at X₁ st1
  have hcat : (Value.ref T.heap.size).category = 1 := rfl
  have hcellA : T1.heap[T.heap.size]? = some (freshCell cX kX) := by rw [← hT1]; exact State.heap_pushCell_size _ _
  have d3' : decode c.code (pc + 3) = .ok (.dup, 1) := by rw [hb]; exact d3
  obtain ⟨U, hsteps, hrun, hend, hW, hsame, ce, hce, hO⟩ := X₁.ctorThrow0 hexec htr (own := own) (cls := cls) (names := names) (ic := ic) hown' hcls hnames h (fun x hx => nomatch hx) hfX hkX hcellA (by rw [hhp, hT]; exact Nat.le_refl _)
    (g := { method := m, pc := pc + 4, locals := ls, stack := .ref T.heap.size :: .ref T.heap.size :: rest, locked := none }) rfl hsize rfl rfl (rest := rest) rfl
    (by rw [hb]; exact d4) (by rw [hb]; exact d7) hout hRframes (by simp only [List.map_cons, List.sum_cons, hcat]; omega) hlocks
  obtain ⟨f1, f2⟩ := vx_frame hsame
  rw [hhp] at f1 f2
  have hWs : s.WarmedH U.vm := State.WarmedH.trans hW0 hW
  have hcl : s.vm.findClass cls = some ce.cls := by
    have h9 := hO.cls
    rw [hvm] at h9
    exact h9
  have hall : s.sameButNew ({ U with vm := s.vm } : State) locs mc ms := by
    subst hA
    obtain ⟨e1, e2⟩ := hsame
    rw [State.setFrames_setFrames] at e1
    have h2 : (T.setVm s.vm).sameButNew ({ U with vm := s.vm } : State) [] (0 + 1) (0 + 6) := ⟨e1, e2⟩
    have h3 := X.same.trans h2
    rw [List.append_nil] at h3
    exact h3.mono hc hs
  refine ⟨U, ?_, .threw T.heap.size, hrun, hend, Or.inr ⟨T.heap.size, rfl, cls, ce, locs, hx U hWs.alike f1 (fun q hq => f2 q hq (fun z hz => nomatch hz)), hce, hO.vm, hcl, hWs, hall, hf⟩⟩
  refine st1 _ ?_
  show Steps p.tables e below (T1.setTop { method := m, pc := pc + 3, locals := ls, stack := .ref T.heap.size :: rest, locked := none }) _
  jvm_step X₁.here [X₁.here.top, hexec, d3', Value.category]
  exact hsteps
/-- 'throw new E("text")': new; dup; ldc; invokespecial; athrow -/
theorem vx_throwS {cc : ByteArray} {pc : Nat} (hexec : p.tables.exec = Jvm.exec) (hb : c.code = cc) (hl : l.stackTraces = false) {own cls text : String} {names : List String} {ik is ic mc ms sa : Nat} {A : Nat → Prop}
    (hown : s.vm.findClass own = some m.cls) (hcls : Bundle.fit cls = true) (hnames : ∀ n ∈ names, Bundle.fit n = true)
    (hk : (Cond.classLink own ik cls).before args s = true) (hini : (Cond.initialized cls).before args s = true) (hstr : vk_R own is text sa s) (hat : ∀ w ∈ vx_atS own ic cls names, w.before args s = true)
    (hgood : ∀ w ∈ Cond.classLink own ik cls :: Cond.initialized cls :: vx_atS own ic cls names, vx_ot w = true)
    (hU : vx_Zq Bundle.tN "UNASSIGNED_STACK" Bundle.steD A s s.heap) (hN : vx_Zq Bundle.tN "SUPPRESSED_SENTINEL" Bundle.listD A s s.heap) (hS : va_S A s.heap H locs) (hsize : ls.size = c.maxLocals)
    (d0 : decode cc pc = .ok (.new ik, 3)) (d3 : decode cc (pc + 3) = .ok (.dup, 1)) (d4 : decode cc (pc + 4) = .ok (.ldc is, 2)) (d6 : decode cc (pc + 6) = .ok (.invokespecial ic, 3)) (d9 : decode cc (pc + 9) = .ok (.athrow, 1))
    (hout : ∀ x ∈ c.exceptionTable.toList, covers x (pc + 9) = false)
    (hRframes : names.length + 3 < R.frames) (hRlocals : (rest.map fun v => v.category).sum + (13 * (names.length + 1) + 43) ≤ R.locals) (hRcells : cells + 1 ≤ R.cells) (hRslots : slots + 6 ≤ R.slots) (hlocks : meth.locks = false)
    (hx : ∀ t : State, s.vm.Alike t.vm → H.size ≤ t.heap.size → (∀ q : Nat, q < H.size → t.heap[q]? = H[q]?) → XC cls s t)
    (hf : ∀ z ∈ locs, free z.base) (hc : cells + 1 ≤ mc) (hs : slots + 6 ≤ ms) :
    W p l e R s m args below meth c H locs cells slots (vx_MQ below Qc XC args s mc ms free) (F0 m pc ls rest) := by
  intro T hT X
  have htr : e.platform.stackTraces = false := (show e.platform.stackTraces = l.stackTraces by rw [X.admits.platform]).trans hl
  have Y := vx_rebase X (R' := { frames := R.frames, locals := R.locals, cells := 1, slots := 6 }) (Nat.le_refl _) (Nat.le_refl _) hRcells hRslots
  obtain ⟨s', hA⟩ : ∃ z, z = (T.setVm s.vm).setFrames (.invoking m args :: below) := ⟨_, rfl⟩
  rw [← hA] at Y
  have hvm : s'.vm = s.vm := by rw [hA]; rfl
  have hhp : s'.heap = H := by rw [hA]; exact hT
  have hW0 : s.WarmedH s'.vm := by rw [hvm]; exact State.WarmedH.refl s
  have hat' : ∀ w ∈ vx_atS own ic cls names, w.before args s' = true := fun w hw => vx_ot_at hW0 hvm.symm (hgood w (List.mem_cons_of_mem _ (List.mem_cons_of_mem _ hw))) (hat w hw)
  have hk' : (Cond.classLink own ik cls).before args s' = true := vx_ot_at hW0 hvm.symm (hgood _ List.mem_cons_self) hk
  have hini' : (Cond.initialized cls).before args s' = true := vx_ot_at hW0 hvm.symm (hgood _ (List.mem_cons_of_mem _ List.mem_cons_self)) hini
  have hU' : vx_Zq Bundle.tN "UNASSIGNED_STACK" Bundle.steD A s' s'.heap := by rw [hhp]; exact vx_Zq.moved hW0.alike (hU.kept hS.2.1)
  have hN' : vx_Zq Bundle.tN "SUPPRESSED_SENTINEL" Bundle.listD A s' s'.heap := by rw [hhp]; exact vx_Zq.moved hW0.alike (hN.kept hS.2.1)
  have h : ∀ w ∈ Bundle.ownAtoms own ic cls names, w.before args s' = true := vx_own hat' (vx_isRefq hU'.1) (vx_isRefq hN'.1) hU'.2.word hN'.2.word
  have hown' : s'.vm.findClass own = some m.cls := by rw [hvm]; exact hown
  have hins : (Cond.instantiable cls 6).before args s' = true := h _ (by simp [Bundle.ownAtoms])
  obtain ⟨vm₁, cX, kX, hfX, hkX, -, -, X₁, st1⟩ := Y.newCold hexec (own := own) (C := cls) (index := ik) (n := 6) hown' hk' hins hini'
    (g := F0 m pc ls rest) rfl (by rw [hb]; exact d0) (Nat.le_refl _) (Nat.le_refl _)
  generalize hT1 : (T.setVm vm₁).pushCell { cls := cX, slots := kX.instanceTypes.map defaultValue, vm := .none } = T1 at X₁ st1
  have hcat : (Value.ref T.heap.size).category = 1 := rfl
  have hcellA : T1.heap[T.heap.size]? = some (freshCell cX kX) := by rw [← hT1]; exact State.heap_pushCell_size _ _
  have d3' : decode c.code (pc + 3) = .ok (.dup, 1) := by rw [hb]; exact d3
  have d4' : decode c.code (pc + 4) = .ok (.ldc is, 2) := by rw [hb]; exact d4
  have hstr' : vk_R own is text sa s' := vk_R.warm hW0 hstr
  obtain ⟨U, hsteps, hrun, hend, hW, hsame, ce, hce, hO⟩ := X₁.ctorThrowS hexec htr (own := own) (cls := cls) (names := names) (ic := ic) hown' hcls hnames h (fun x hx => nomatch hx) hfX hkX hcellA (by rw [hhp, hT]; exact Nat.le_refl _) (msg := .ref sa) rfl
    (g := { method := m, pc := pc + 6, locals := ls, stack := .ref sa :: .ref T.heap.size :: .ref T.heap.size :: rest, locked := none }) rfl hsize rfl rfl (rest := rest) rfl
    (by rw [hb]; exact d6) (by rw [hb]; exact d9) hout hRframes (by simp only [List.map_cons, List.sum_cons, hcat]; omega) hlocks
  obtain ⟨f1, f2⟩ := vx_frame hsame
  rw [hhp] at f1 f2
  have hWs : s.WarmedH U.vm := State.WarmedH.trans hW0 hW
  have hcl : s.vm.findClass cls = some ce.cls := by
    have h9 := hO.cls
    rw [hvm] at h9
    exact h9
  have hall : s.sameButNew ({ U with vm := s.vm } : State) locs mc ms := by
    subst hA
    obtain ⟨e1, e2⟩ := hsame
    rw [State.setFrames_setFrames] at e1
    have h2 : (T.setVm s.vm).sameButNew ({ U with vm := s.vm } : State) [] (0 + 1) (0 + 6) := ⟨e1, e2⟩
    have h3 := X.same.trans h2
    rw [List.append_nil] at h3
    exact h3.mono hc hs
  refine ⟨U, ?_, .threw T.heap.size, hrun, hend, Or.inr ⟨T.heap.size, rfl, cls, ce, locs, hx U hWs.alike f1 (fun q hq => f2 q hq (fun z hz => nomatch hz)), hce, hO.vm, hcl, hWs, hall, hf⟩⟩
  refine st1 _ ?_
  show Steps p.tables e below (T1.setTop { method := m, pc := pc + 3, locals := ls, stack := .ref T.heap.size :: rest, locked := none }) _
  jvm_step X₁.here [X₁.here.top, hexec, d3', Value.category]
  exact X₁.ldcString hexec (own := own) (text := text) (index := is) (a := sa) hown' hstr'.1 hstr'.2
    (g := { method := m, pc := pc + 4, locals := ls, stack := .ref T.heap.size :: .ref T.heap.size :: rest, locked := none }) rfl d4' _ hsteps
/-- 'throw new E("text")', the text by a wide index -/
theorem vx_throwSW {cc : ByteArray} {pc : Nat} (hexec : p.tables.exec = Jvm.exec) (hb : c.code = cc) (hl : l.stackTraces = false) {own cls text : String} {names : List String} {ik is ic mc ms sa : Nat} {A : Nat → Prop}
    (hown : s.vm.findClass own = some m.cls) (hcls : Bundle.fit cls = true) (hnames : ∀ n ∈ names, Bundle.fit n = true)
    (hk : (Cond.classLink own ik cls).before args s = true) (hini : (Cond.initialized cls).before args s = true) (hstr : vk_R own is text sa s) (hat : ∀ w ∈ vx_atS own ic cls names, w.before args s = true)
    (hgood : ∀ w ∈ Cond.classLink own ik cls :: Cond.initialized cls :: vx_atS own ic cls names, vx_ot w = true)
    (hU : vx_Zq Bundle.tN "UNASSIGNED_STACK" Bundle.steD A s s.heap) (hN : vx_Zq Bundle.tN "SUPPRESSED_SENTINEL" Bundle.listD A s s.heap) (hS : va_S A s.heap H locs) (hsize : ls.size = c.maxLocals)
    (d0 : decode cc pc = .ok (.new ik, 3)) (d3 : decode cc (pc + 3) = .ok (.dup, 1)) (d4 : decode cc (pc + 4) = .ok (.ldc_w is, 3)) (d7 : decode cc (pc + 7) = .ok (.invokespecial ic, 3)) (d10 : decode cc (pc + 10) = .ok (.athrow, 1))
    (hout : ∀ x ∈ c.exceptionTable.toList, covers x (pc + 10) = false)
    (hRframes : names.length + 3 < R.frames) (hRlocals : (rest.map fun v => v.category).sum + (13 * (names.length + 1) + 43) ≤ R.locals) (hRcells : cells + 1 ≤ R.cells) (hRslots : slots + 6 ≤ R.slots) (hlocks : meth.locks = false)
    (hx : ∀ t : State, s.vm.Alike t.vm → H.size ≤ t.heap.size → (∀ q : Nat, q < H.size → t.heap[q]? = H[q]?) → XC cls s t)
    (hf : ∀ z ∈ locs, free z.base) (hc : cells + 1 ≤ mc) (hs : slots + 6 ≤ ms) :
    W p l e R s m args below meth c H locs cells slots (vx_MQ below Qc XC args s mc ms free) (F0 m pc ls rest) := by
  intro T hT X
  have htr : e.platform.stackTraces = false := (show e.platform.stackTraces = l.stackTraces by rw [X.admits.platform]).trans hl
  have Y := vx_rebase X (R' := { frames := R.frames, locals := R.locals, cells := 1, slots := 6 }) (Nat.le_refl _) (Nat.le_refl _) hRcells hRslots
  obtain ⟨s', hA⟩ : ∃ z, z = (T.setVm s.vm).setFrames (.invoking m args :: below) := ⟨_, rfl⟩
  rw [← hA] at Y
  have hvm : s'.vm = s.vm := by rw [hA]; rfl
  have hhp : s'.heap = H := by rw [hA]; exact hT
  have hW0 : s.WarmedH s'.vm := by rw [hvm]; exact State.WarmedH.refl s
  have hat' : ∀ w ∈ vx_atS own ic cls names, w.before args s' = true := fun w hw => vx_ot_at hW0 hvm.symm (hgood w (List.mem_cons_of_mem _ (List.mem_cons_of_mem _ hw))) (hat w hw)
  have hk' : (Cond.classLink own ik cls).before args s' = true := vx_ot_at hW0 hvm.symm (hgood _ List.mem_cons_self) hk
  have hini' : (Cond.initialized cls).before args s' = true := vx_ot_at hW0 hvm.symm (hgood _ (List.mem_cons_of_mem _ List.mem_cons_self)) hini
  have hU' : vx_Zq Bundle.tN "UNASSIGNED_STACK" Bundle.steD A s' s'.heap := by rw [hhp]; exact vx_Zq.moved hW0.alike (hU.kept hS.2.1)
  have hN' : vx_Zq Bundle.tN "SUPPRESSED_SENTINEL" Bundle.listD A s' s'.heap := by rw [hhp]; exact vx_Zq.moved hW0.alike (hN.kept hS.2.1)
  have h : ∀ w ∈ Bundle.ownAtoms own ic cls names, w.before args s' = true := vx_own hat' (vx_isRefq hU'.1) (vx_isRefq hN'.1) hU'.2.word hN'.2.word
  have hown' : s'.vm.findClass own = some m.cls := by rw [hvm]; exact hown
  have hins : (Cond.instantiable cls 6).before args s' = true := h _ (by simp [Bundle.ownAtoms])
  obtain ⟨vm₁, cX, kX, hfX, hkX, -, -, X₁, st1⟩ := Y.newCold hexec (own := own) (C := cls) (index := ik) (n := 6) hown' hk' hins hini'
    (g := F0 m pc ls rest) rfl (by rw [hb]; exact d0) (Nat.le_refl _) (Nat.le_refl _)
  generalize hT1 : (T.setVm vm₁).pushCell { cls := cX, slots := kX.instanceTypes.map defaultValue, vm := .none } = T1 at X₁ st1
  have hcat : (Value.ref T.heap.size).category = 1 := rfl
  have hcellA : T1.heap[T.heap.size]? = some (freshCell cX kX) := by rw [← hT1]; exact State.heap_pushCell_size _ _
  have d3' : decode c.code (pc + 3) = .ok (.dup, 1) := by rw [hb]; exact d3
  have d4' : decode c.code (pc + 4) = .ok (.ldc_w is, 3) := by rw [hb]; exact d4
  have hstr' : vk_R own is text sa s' := vk_R.warm hW0 hstr
  obtain ⟨U, hsteps, hrun, hend, hW, hsame, ce, hce, hO⟩ := X₁.ctorThrowS hexec htr (own := own) (cls := cls) (names := names) (ic := ic) hown' hcls hnames h (fun x hx => nomatch hx) hfX hkX hcellA (by rw [hhp, hT]; exact Nat.le_refl _) (msg := .ref sa) rfl
    (g := { method := m, pc := pc + 7, locals := ls, stack := .ref sa :: .ref T.heap.size :: .ref T.heap.size :: rest, locked := none }) rfl hsize rfl rfl (rest := rest) rfl
    (by rw [hb]; exact d7) (by rw [hb]; exact d10) hout hRframes (by simp only [List.map_cons, List.sum_cons, hcat]; omega) hlocks
  obtain ⟨f1, f2⟩ := vx_frame hsame
  rw [hhp] at f1 f2
  have hWs : s.WarmedH U.vm := State.WarmedH.trans hW0 hW
  have hcl : s.vm.findClass cls = some ce.cls := by
    have h9 := hO.cls
    rw [hvm] at h9
    exact h9
  have hall : s.sameButNew ({ U with vm := s.vm } : State) locs mc ms := by
    subst hA
    obtain ⟨e1, e2⟩ := hsame
    rw [State.setFrames_setFrames] at e1
    have h2 : (T.setVm s.vm).sameButNew ({ U with vm := s.vm } : State) [] (0 + 1) (0 + 6) := ⟨e1, e2⟩
    have h3 := X.same.trans h2
    rw [List.append_nil] at h3
    exact h3.mono hc hs
  refine ⟨U, ?_, .threw T.heap.size, hrun, hend, Or.inr ⟨T.heap.size, rfl, cls, ce, locs, hx U hWs.alike f1 (fun q hq => f2 q hq (fun z hz => nomatch hz)), hce, hO.vm, hcl, hWs, hall, hf⟩⟩
  refine st1 _ ?_
  show Steps p.tables e below (T1.setTop { method := m, pc := pc + 3, locals := ls, stack := .ref T.heap.size :: rest, locked := none }) _
  jvm_step X₁.here [X₁.here.top, hexec, d3', Value.category]
  exact X₁.ldcStringW hexec (own := own) (text := text) (index := is) (a := sa) hown' hstr'.1 hstr'.2
    (g := { method := m, pc := pc + 4, locals := ls, stack := .ref T.heap.size :: .ref T.heap.size :: rest, locked := none }) rfl d4' _ hsteps
end Ends
section Bodies
variable {l : Launch}
theorem vx_ofW {y : MethodName} {ws ws' : List Cond} {rm : Room} {Pc : Array Value → State → Prop} {Qc : Array Value → State → Outcome → State → Prop} {XC : String → State → State → Prop} {mc ms : Nat} {free : Addr → Prop} {cc : ByteArray} {maxL : Nat} {ret : Option FieldType}
    (hy : plainName y.cls = true) (hw : ws = Cond.code y cc maxL ret :: ws')
    (body : ∀ p e s m args below meth c s₁, BodyLoose p l y (headSpec ws rm) cc maxL ret e s m args below meth c s₁ → c.maxLocals = maxL → (∀ x ∈ c.exceptionTable.toList, False) → Pc args s →
      W p l e (headSpec ws rm).room s m args below meth c s.heap [] 0 0 (vx_MQ below Qc XC args s mc ms free) (entryFrame m args maxL)) : vx_Met l y ws rm Pc Qc XC mc ms free := by
  refine MetFree.of_bodyS (code := cc) (maxLocals := maxL) (ret := ret) hy ?_ ?_
  · intro args s m h hn
    obtain ⟨meth, c, h1, h2, h3, h4, h5, h6, -, -⟩ := Cond.code_spec hn (atoms_spec (ws := ws) h _ (by rw [hw]; exact List.mem_cons_self))
    exact ⟨meth, c, h1, h2, h3, h4, h5, h6⟩
  · intro p e s m args below meth c s₁ B hml hP _
    have hh0 : s₁.heap = s.heap := by rw [B.state]; rfl
    have ht : ∀ x ∈ c.exceptionTable.toList, False := by
      obtain ⟨meth9, c9, h1, h2, -, -, -, -, h7, -⟩ := Cond.code_spec B.named (atoms_spec (ws := ws) B.pre _ (by rw [hw]; exact List.mem_cons_self))
      cases Option.some.inj (h1.symm.trans B.method)
      cases Option.some.inj (h2.symm.trans (Stand.of_body B).code)
      intro x hx
      rw [Array.isEmpty_iff.mp h7] at hx
      cases hx
    obtain ⟨t, a1, o, b1, b2, b3⟩ := body p e s m args below meth c s₁ B hml ht hP s₁ hh0 (Stand.of_body B)
    exact ⟨t, o, a1, b1, b2, b3⟩
/-- the table of a body with handlers -/
theorem vx_table {p : Program} {x y : MethodName} {S : Spec} {cc bytes : ByteArray} {maxL maxL' : Nat} {ret ret' : Option FieldType} {e : Env} {s s₁ : State} {m : MethodId} {args : Array Value} {below : List Frame} {meth : Method} {c : Code} {hh : List (Nat × Nat × Nat × Nat)}
    (B : BodyLoose p l y S cc maxL ret e s m args below meth c s₁) (h : (Cond.codeWith y bytes maxL' ret' hh).before args s = true) : c.exceptionTable.toList = tableOf hh := by
  obtain ⟨m9, meth9, c9, hn9, h1, h2, -, -, h6, -⟩ := Cond.codeWith_spec h
  cases Option.some.inj (hn9.symm.trans B.named)
  cases Option.some.inj (h1.symm.trans B.method)
  cases Option.some.inj (h2.symm.trans (Stand.of_body B).code)
  rw [← h6, table_eq]
end Bodies
end VXA
/-! ===== END ===== -/
/-! ===== BEGIN a static call of a method with an exception table ===== -/
section VXS
variable {p : Program} {l : Launch} {e : Env} {R : Room} {s : State} {m : MethodId} {args : Array Value} {below : List Frame} {meth : Method} {c : Code} {T : State} {H : Heap} {locs : List Loc} {cells slots : Nat}
abbrev vx_CSW (R : Room) (s : State) (args : Array Value) (own : String) (index : Nat) (y : MethodName) (bytes : ByteArray) (maxL : Nat) (ret : Option FieldType) (hh : List (Nat × Nat × Nat × Nat)) (ws : List Cond) (rm : Room) (mc ms n : Nat) : Prop :=
  (rm.cells = mc ∧ rm.slots = ms ∧ rm.frames + 1 ≤ R.frames ∧ 8 + (maxL + 11) + rm.locals ≤ R.locals ∧ (∀ w ∈ ws, ∀ (a' : Array Value) (U : State), s.WarmedH U.vm → w.before a' U = true) ∧ Cond.codeWith y bytes maxL ret hh ∈ ws) ∧
  (Cond.codeWith y bytes maxL ret hh).before args s = true ∧ (Cond.initialized y.cls).before args s = true ∧ (y.cls ≠ "java/lang/invoke/MethodHandle" ∧ y.cls ≠ "java/lang/invoke/VarHandle") ∧
  (∀ sig, parseMethodDescriptor y.desc = some sig → n = sig.parameters.length) ∧ (Cond.methodLink own index y).before args s = true ∧ (Cond.static y).before args s = true
theorem vx_cwSW {own : String} {index maxL mc ms : Nat} {y : MethodName} {bytes : ByteArray} {ret : Option FieldType} {hh : List (Nat × Nat × Nat × Nat)} {Ts ws ws' : List Cond} {rm : Room} (n : Nat) (ht : ∀ w ∈ Ts, w.before args s = true) (hT : GoodIn Ts (va_wsS own index y ws)) (hw : ws = Cond.codeWith y bytes maxL ret hh :: ws') (hrc : rm.cells = mc) (hrs : rm.slots = ms)
    (hd : y.cls ≠ "java/lang/invoke/MethodHandle" ∧ y.cls ≠ "java/lang/invoke/VarHandle" ∧ (parseMethodDescriptor y.desc).map (fun d => d.parameters.length) = some n) (hR : rm.frames + 1 ≤ R.frames ∧ 8 + (maxL + 11) + rm.locals ≤ R.locals) :
    vx_CSW R s args own index y bytes maxL ret hh ws rm mc ms n := by
  have ok : ∀ w ∈ va_wsS own index y ws, w.before args s = true := fun w h => ht w (hT w h).1
  have hG : GoodIn Ts ws := fun w h => hT w (by unfold va_wsS; exact List.mem_append_right _ h)
  have hc : Cond.codeWith y bytes maxL ret hh ∈ ws := by rw [hw]; exact List.mem_cons_self
  refine ⟨⟨hrc, hrs, hR.1, hR.2, pay_in ht hG, hc⟩, ht _ (hG _ hc).1, ok _ (by simp [va_wsS]), ⟨hd.1, hd.2.1⟩, fun sig h => ?_, ok _ (by simp [va_wsS]), ok _ (by simp [va_wsS])⟩
  have h2 := hd.2.2
  rw [h] at h2
  exact (Option.some.inj h2).symm
theorem vx_callSW (X : Stand p l e R s m args below meth c T locs cells slots) (hexec : p.tables.exec = Jvm.exec) {own : String} {index : Nat} {y : MethodName} {bytes : ByteArray} {maxL : Nat} {ret : Option FieldType} {hh : List (Nat × Nat × Nat × Nat)}
    (hown : s.vm.findClass own = some m.cls) (hlink : (Cond.methodLink own index y).before args s = true) (hstat : (Cond.static y).before args s = true) (hinit : (Cond.initialized y.cls).before args s = true)
    (hcode : (Cond.codeWith y bytes maxL ret hh).before args s = true) (hy : y.cls ≠ "java/lang/invoke/MethodHandle" ∧ y.cls ≠ "java/lang/invoke/VarHandle")
    {W9 : Nat} {Pre : Pt → Array Value → Prop} {Post : Pt → Array Value → Option Value → Pt → Prop} (hK : Back l R p e below s args y 3 W9 Pre Post)
    {g : JFrame} (hg : g.method = m) (hsize : g.locals.size = c.maxLocals) {argsL rest : List Value} (hlen : ∀ sig, parseMethodDescriptor y.desc = some sig → argsL.length = sig.parameters.length)
    (hstack : g.stack = argsL.reverse ++ rest) (hW : 2 * g.monitorRoom + (rest.map fun v => v.category).sum ≤ W9) (hdg : decode c.code g.pc = .ok (.invokestatic index, 3))
    (hpre : ∀ vm₁, s.WarmedH vm₁ → Pre ⟨T.setVm vm₁, locs, cells, slots⟩ argsL.toArray) :
    ∃ (v : Option Value) (vm₁ : Vm) (B : Pt), s.WarmedH vm₁ ∧ Stand p l e R s m args below meth c B.U B.locs B.cells B.slots ∧ Post ⟨T.setVm vm₁, locs, cells, slots⟩ argsL.toArray v B ∧
      ∀ target, Steps p.tables e below (B.U.setTop { g with pc := g.pc + 3, stack := v.toList ++ rest }) target → Steps p.tables e below (T.setTop g) target := by
  obtain ⟨mk, methM, cM, hnamed, hmethM, -, -, -, -, -, -, hsigM⟩ := Cond.codeWith_spec hcode
  have hstatic : methM.isStatic = true := Cond.static_spec hnamed hmethM hstat
  obtain ⟨kP, hkP, -⟩ := className_of_methodNamed hnamed
  have hinitP : kP.init = .initialized := Cond.initialized_spec (findClass_of_methodNamed hnamed) hkP hinit
  obtain ⟨vm₁, X₁, hstep₁⟩ := X.invokestatic hexec hown hlink hnamed hmethM hstatic hkP hinitP hy (g := g) hg (argsL := argsL) (rest := rest) (hlen _ hsigM) hstack hdg
  obtain ⟨v, B, X', hpost, hsteps⟩ := hK m meth c ⟨T.setVm vm₁, locs, cells, slots⟩ { g with stack := rest } (.invokestatic index) mk argsL.toArray X₁ hg hsize hdg hW (X₁.named hnamed) (hpre vm₁ X₁.warmed)
  exact ⟨v, vm₁, B, X₁.warmed, X', hpost, fun target h => hstep₁ _ fun acts => by rw [doInvoke_state]; exact hsteps.trans h⟩
theorem vx_runSW {y : MethodName} {bytes cc : ByteArray} {maxL nL mc ms n index : Nat} {ret : Option FieldType} {hh : List (Nat × Nat × Nat × Nat)} {ws : List Cond} {rm : Room} {Pc : Array Value → State → Prop} {Qc : Array Value → State → Outcome → State → Prop} {free : Addr → Prop} {Ts : List Cond} {own : String} {As rest : List Value} {g : JFrame}
    (S : CallFix p m c cc nL s args Ts own) (hM : Met l y ws rm Pc Qc mc ms free) (cw : vx_CSW R s args own index y bytes maxL ret hh ws rm mc ms n) (hp : PreS s H Pc As)
    (hg : g.method = m) (hn : As.length = n) (hsize : g.locals.size = nL) (hstack : g.stack = As.reverse ++ rest) (hW : 2 * g.monitorRoom + (rest.map fun v => v.category).sum ≤ 8) (hdg : decode cc g.pc = .ok (.invokestatic index, 3)) (hf : cells + mc ≤ R.cells ∧ slots + ms ≤ R.slots) :
    va_Run p l e R s m args below meth c H locs cells slots mc ms g rest (Qc As.toArray) (free) := by
  obtain ⟨⟨hrc, hrs, hfr, hlo, hws, hcw⟩, hcode, hini, hy, hlen, hl, hstt⟩ := cw
  have hK : Back l R p e below s args y 3 8 (PreOf R mc ms Pc) (PostOf Qc mc ms free) := va_backW (hh := hh) (bytes := bytes) (maxL := maxL) (ret := ret) hM hp.1 hrc hrs hfr hlo hws hcw (fun a' U hW => word_at hW (Or.inl (by first | rfl | simp [Cond.onTables, Cond.keeps, Cond.steady])) hini)
  obtain ⟨hx, hb, hml, ho, -⟩ := S
  intro T hT X
  obtain ⟨v, vm₁, ⟨U', l2, c2, s2⟩, hW₁, X', ⟨g', mk, t, L, e1, e2, hq, h1, hL, h2, h3⟩, st⟩ := vx_callSW X hx (hh := hh) (bytes := bytes) (maxL := maxL) (ret := ret) ho hl hstt hini hcode hy hK hg (hsize.trans hml.symm) (argsL := As) (rest := rest) (fun sig h => hn.trans (hlen sig h)) hstack hW (by rw [hb]; exact hdg)
    (fun vm₁ hW₁ => ⟨hf.1, hf.2, hp.2 (T.setVm vm₁) hT hW₁⟩)
  dsimp only [Pt.U, Pt.locs, Pt.cells, Pt.slots] at X' e1 e2 h1 h2 h3 st
  subst h1; subst h2; subst h3
  exact ⟨v, (T.setVm vm₁).calling g' mk As.toArray, t, U', L, hT, X', hL, e1, e2, hq, st⟩
/-- not caught here, past rows that name other classes: it goes on to the caller -/
theorem vx_outP {p : Program} {l : Launch} {e : Env} {R : Room} {s : State} {m : MethodId} {args : Array Value} {below : List Frame} {meth : Method} {c : Code} {H : Heap} {locs : List Loc} {cells slots : Nat} {free : Addr → Prop} {ls : Array Slot} {rest : List Value} {Qc : Array Value → State → Outcome → State → Prop} {XC : String → State → State → Prop}
    {pc : Nat} {own E : String} {ce : Cell} {q : Addr} {mc ms : Nat} (hown : s.vm.findClass own = some m.cls) (hlocks : meth.locks = false)
    (hpass : ∀ z ∈ c.exceptionTable.toList, covers z pc = false ∨ (z.catchType ≠ 0 ∧ ∃ nm : String, (Cond.classLink own z.catchType nm).before args s = true ∧ va_Nc E nm s)) (hcell : H[q]? = some ce) (hv : ce.vm = .none) (hcl : s.vm.findClass E = some ce.cls)
    (hx : ∀ t : State, t.heap = H → s.vm.Alike t.vm → XC E s t) (hf : ∀ z ∈ locs, free z.base) (hc : cells ≤ mc) (hs : slots ≤ ms) :
    vx_W p l e R s m args below meth c H locs cells slots (vx_MQ below Qc XC args s mc ms free) (F0 m pc ls rest) q := by
  intro T hT X
  have hpl : e.platform.magicAccessors = ({} : Platform).magicAccessors := by rw [X.admits.platform]
  obtain ⟨vm', hW', X', st⟩ := X.outThrough hlocks q (g := F0 m pc ls rest) rfl rfl rfl (cell := ce) (by rw [hT]; exact hcell) (by rw [hv]; rfl)
    (by obtain ⟨k9, h9, -⟩ := Vm.findClass_spec hcl; exact ⟨k9, h9⟩) (fun z hz => by
      rcases hpass z hz with h | ⟨hz0, nm, hl1, hn1⟩
      · exact Or.inl h
      · obtain ⟨c6, hc6, hcl6⟩ := Cond.classLink_spec hown hl1 e.platform hpl
        obtain ⟨a8, b8, h1, h2, h3⟩ := hn1
        cases Option.some.inj (h1.symm.trans hcl)
        cases Option.some.inj (h2.symm.trans hc6)
        exact Or.inr ⟨hz0, _, hcl6, h3⟩)
  obtain ⟨g₀, hfr⟩ := X'.frames_eq
  have hcell9 : ((T.setVm vm').setFrames (.throwing q :: below)).heap[q]? = some ce := by
    show T.heap[q]? = some ce
    rw [hT]; exact hcell
  have hend : Ended ((T.setVm vm').setFrames (.throwing q :: below)) below (.threw q) := State.frames_setFrames _ (State.cur_lt_of_frames hfr)
  refine ⟨(T.setVm vm').setFrames (.throwing q :: below), ?_, .threw q, X'.here.running, hend, Or.inr ⟨q, rfl, E, ce, locs, hx _ hT (X'.ends _).1.alike, hcell9, hv, hcl, (X'.ends _).1, (X'.ends _).2.mono hc hs, hf⟩⟩
  rw [X.pushThrowing_eq]
  exact st
/-- a thing of a world lies in the heap -/
theorem vx_lt {D : va_G} {cl : List vw_C} {ws : va_W} {H1 : Heap} (h : va_P D cl ws H1) {k : Nat} {q : Nat × va_E} (hk : ws[k]? = some q) : q.1 < H1.size := (h k q hk).lt
end VXS
/-! ===== END ===== -/
/-! ===== BEGIN methods with a table of their own: called by a name, returning or throwing ===== -/
section VXH
/-! vx_backW, vx_callVX, vx_callSX, vx_callVW, vx_runVW, vx_runVX, vx_runSX, vx_ofWH follow the same proofs as their sisters above (Free/Laws.lean, Shelf42/LK1.lean); vx_outP calls Shelf42/NT130.lean (outThrough). -/
section
variable {l : Launch} {R : Room} {p : Program} {e : Env} {below : List Frame} {s : State} {sargs : Array Value} {y : MethodName} {len W9 : Nat}
theorem vx_backW {ws : List Cond} {rm : Room} {Pc : Array Value → State → Prop} {Qc : Array Value → State → Outcome → State → Prop} {XC : String → State → State → Prop} {mc ms : Nat} {free : Addr → Prop} {bytes : ByteArray} {maxL : Nat} {ret : Option FieldType} {hh : List (Nat × Nat × Nat × Nat)}
    (hM : vx_Met l y ws rm Pc Qc XC mc ms free) (hblind : FrameBlind Pc) (hrc : rm.cells = mc) (hrs : rm.slots = ms)
    (hframes : rm.frames + 1 ≤ R.frames) (hlocals : W9 + (maxL + 11) + rm.locals ≤ R.locals)
    (hws : ∀ w ∈ ws, ∀ a' U, s.WarmedH U.vm → w.before a' U = true) (hcode : Cond.codeWith y bytes maxL ret hh ∈ ws) (hinit : ∀ a' U, s.WarmedH U.vm → (Cond.initialized y.cls).before a' U = true) :
    vx_Back l R p e below s sargs y len W9 (PreOf R mc ms Pc) (PostOf Qc mc ms free) (vx_Post XC mc ms free) := by
  intro m meth c A g ig mk a X hg hsize hdg hW hn hp
  have h1 : (headSpec ws rm).pre.before a A.U = true := atoms_intro fun w hw => hws w hw _ _ X.warmed
  have h2 : (Cond.codeWith y bytes maxL ret hh).before a A.U = true := hws _ hcode _ _ X.warmed
  have h3 : (Cond.initialized y.cls).before a A.U = true := hinit _ _ X.warmed
  have h4 : A.cells + (headSpec ws rm).room.cells ≤ R.cells := by rw [show (headSpec ws rm).room.cells = mc from hrc]; exact hp.1
  have h5 : A.slots + (headSpec ws rm).room.slots ≤ R.slots := by rw [show (headSpec ws rm).room.slots = ms from hrs]; exact hp.2.1
  have hPc : Pc a (A.U.calling g mk a) := hblind _ _ _ _ hp.2.2
  obtain ⟨U, Ls, c0, s0⟩ := A
  dsimp only [Pt.U, Pt.locs, Pt.cells, Pt.slots] at h1 h2 h3 h4 h5 X hn hPc ⊢
  obtain ⟨m9, methY, cY, hn9, hmY, hcY, -, hlY, -⟩ := Cond.codeWith_spec h2
  cases Option.some.inj (hn9.symm.trans hn)
  obtain ⟨kY, hkY, -⟩ := className_of_methodNamed hn
  have hinitY : kY.init = .initialized := Cond.initialized_spec (findClass_of_methodNamed hn) hkY h3
  have h : At U g.method c below := by rw [hg]; exact X.here
  have hlocals9 : W9 + (maxL + 11) + (headSpec ws rm).room.locals ≤ R.locals := hlocals
  have happ : (headSpec ws rm).appliesLoose y e.platform (U.calling g mk a) = true :=
    Spec.appliesLoose_calling (g := g) h hdg hn hkY hinitY
      (X.room_calling (g := g) (R' := (headSpec ws rm).room) hsize hmY hcY hframes (by rw [hlY]; omega) h4 h5) h1
  obtain ⟨mid, hmid⟩ := h.above
  have hfr : (U.setTop g).frames = (.java g :: mid) ++ below := by rw [State.frames_setTop' g h.top, hmid]; rfl
  obtain ⟨o, s₂, hsteps, -, hend, hq⟩ := Steps.callFree hM p X.admits X.cas X.clock (acts := []) hfr happ hPc trivial
  have hq' : vx_Q Qc XC mc ms free a (U.calling g mk a) o s₂ := hq
  rw [State.frames_setTop' g h.top] at hend
  obtain ⟨g₀, hg0⟩ := Option.isSome_iff_exists.mp h.top
  obtain ⟨r, hr⟩ := State.topJava?_eq_some.mp hg0
  have hr' : (({ U with heap := s₂.heap, slotsUsed := s₂.slotsUsed } : State).setVm s₂.vm).frames = .java g₀ :: r := hr
  rcases hq' with ⟨hqc, L, hfe, hL⟩ | ⟨q, rfl, E, ce, L, hx, hce, hcv, hcl, hW₂, hsm, hL⟩
  · obtain ⟨⟨v, rfl⟩, hW₂, e2, q2, q3, q4, q5, q6⟩ := id hfe
    have e3 : s₂ = ({ (U.calling g mk a).setFrames s₂.frames with heap := s₂.heap, slotsUsed := s₂.slotsUsed } : State).setVm s₂.vm := by
      have : s₂ = ({ s₂ with vm := (U.calling g mk a).vm } : State).setVm s₂.vm := rfl
      rw [e2] at this
      exact this
    obtain ⟨c₂, i₂, len₂, hc₂, hd₂, hf₂⟩ := hend
    have hW' : U.WarmedH s₂.vm := hW₂
    have hcc : c₂ = c := by
      have h1 : s₂.code? g.method = U.code? g.method := by
        rw [State.code?_eq, State.code?_eq, hW'.alike.method?]
      exact Option.some.inj (hc₂.symm.trans (h1.trans h.code))
    subst hcc
    have hlen : len₂ = len := by rw [hdg] at hd₂; cases hd₂; rfl
    subst hlen
    have hs₂ : s₂ = (({ U with heap := s₂.heap, slotsUsed := s₂.slotsUsed } : State).setVm s₂.vm).setTop { g with pc := g.pc + len₂, stack := v.toList ++ g.stack } := by
      refine e3.trans ?_
      rw [hf₂, State.calling_eq h.top, State.setFrames_setFrames, State.setTop_of_frames _ hr', hr]
      rfl
    have hsame : U.sameButNew ({ U with heap := s₂.heap, slotsUsed := s₂.slotsUsed } : State) L mc ms := by
      refine ⟨?_, q2, q3, q4, q5, q6⟩
      obtain ⟨t, ht, -⟩ := State.frames_cons hr
      show ({ U with heap := s₂.heap, slotsUsed := s₂.slotsUsed } : State) = { U.setFrames U.frames with heap := s₂.heap, slotsUsed := s₂.slotsUsed }
      rw [State.setFrames_self ht]
    subst hg
    refine Or.inl ⟨v, ⟨(({ U with heap := s₂.heap, slotsUsed := s₂.slotsUsed } : State).setVm s₂.vm), Ls ++ L, c0 + mc, s0 + ms⟩,
      ⟨X.admits, X.cas, X.clock, X.frames, X.room, X.hears, X.method, X.code, (X.here.setHeapUsed s₂.heap s₂.slotsUsed).setVm hW'.alike, X.tail, State.WarmedH.trans X.warmed hW', X.limits, X.bytes, X.same.trans (hsame.setVm s.vm)⟩,
      ⟨g, mk, s₂, L, rfl, rfl, hqc, rfl, hL, rfl, rfl⟩, ?_⟩
    show Steps p.tables e below _ ((({ U with heap := s₂.heap, slotsUsed := s₂.slotsUsed } : State).setVm s₂.vm).setTop { g with pc := g.pc + len₂, stack := v.toList ++ g.stack })
    rw [← hs₂]
    exact hsteps
  · obtain ⟨e2, q2, q3, q4, q5, q6⟩ := id hsm
    have e3 : s₂ = ({ (U.calling g mk a).setFrames s₂.frames with heap := s₂.heap, slotsUsed := s₂.slotsUsed } : State).setVm s₂.vm := by
      have : s₂ = ({ s₂ with vm := (U.calling g mk a).vm } : State).setVm s₂.vm := rfl
      rw [e2] at this
      exact this
    have hf₂ : s₂.frames = .throwing q :: .java g :: U.frames.tail := hend
    have hW' : U.WarmedH s₂.vm := hW₂
    have hs₂ : s₂ = ((({ U with heap := s₂.heap, slotsUsed := s₂.slotsUsed } : State).setVm s₂.vm).setTop g).pushFrame (.throwing q) := by
      refine e3.trans ?_
      rw [hf₂, State.calling_eq h.top, State.setFrames_setFrames, State.pushFrame, State.frames_setTop _ hr', State.setTop_of_frames _ hr', State.setFrames_setFrames, hr]
      rfl
    have hsame : U.sameButNew ({ U with heap := s₂.heap, slotsUsed := s₂.slotsUsed } : State) L mc ms := by
      refine ⟨?_, q2, q3, q4, q5, q6⟩
      obtain ⟨t, ht, -⟩ := State.frames_cons hr
      show ({ U with heap := s₂.heap, slotsUsed := s₂.slotsUsed } : State) = { U.setFrames U.frames with heap := s₂.heap, slotsUsed := s₂.slotsUsed }
      rw [State.setFrames_self ht]
    subst hg
    refine Or.inr ⟨q, ⟨(({ U with heap := s₂.heap, slotsUsed := s₂.slotsUsed } : State).setVm s₂.vm), Ls ++ L, c0 + mc, s0 + ms⟩,
      ⟨X.admits, X.cas, X.clock, X.frames, X.room, X.hears, X.method, X.code, (X.here.setHeapUsed s₂.heap s₂.slotsUsed).setVm hW'.alike, X.tail, State.WarmedH.trans X.warmed hW', X.limits, X.bytes, X.same.trans (hsame.setVm s.vm)⟩,
      ⟨g, mk, s₂, L, E, ce, rfl, rfl, hx, hce, hcv, hcl, rfl, hL, rfl, rfl⟩, ?_⟩
    show Steps p.tables e below _ (((({ U with heap := s₂.heap, slotsUsed := s₂.slotsUsed } : State).setVm s₂.vm).setTop g).pushFrame (.throwing q))
    rw [← hs₂]
    exact hsteps
end
variable {p : Program} {l : Launch} {e : Env} {R : Room} {s : State} {m : MethodId} {args : Array Value} {below : List Frame} {meth : Method} {c : Code} {T : State} {H : Heap} {locs : List Loc} {cells slots : Nat}
theorem vx_callVX (X : Stand p l e R s m args below meth c T locs cells slots) (hexec : p.tables.exec = Jvm.exec) {own C : String} {index : Nat} {y : MethodName} {bytes : ByteArray} {maxL : Nat} {ret : Option FieldType} {hh : List (Nat × Nat × Nat × Nat)}
    (hown : s.vm.findClass own = some m.cls) (hlink : (Cond.methodLink own index y).before args s = true) (hinst : (Cond.instanceMethod y).before args s = true) (hsel : (Cond.selects C y y).before args s = true)
    (hcode : (Cond.codeWith y bytes maxL ret hh).before args s = true) (hy : y.cls ≠ "java/lang/invoke/MethodHandle" ∧ y.cls ≠ "java/lang/invoke/VarHandle")
    {W9 : Nat} {Pre : Pt → Array Value → Prop} {Post : Pt → Array Value → Option Value → Pt → Prop} {PostX : Pt → Array Value → Addr → Pt → Prop} (hK : vx_Back l R p e below s args y 3 W9 Pre Post PostX)
    {b : Addr} {cellB : Cell} (hcell : T.heap[b]? = some cellB) (hobj : cellB.vm.isStatics = false) (hcls : s.vm.findClass C = some cellB.cls)
    {g : JFrame} (hg : g.method = m) (hsize : g.locals.size = c.maxLocals) {argsL rest : List Value} (hlen : ∀ sig, parseMethodDescriptor y.desc = some sig → argsL.length = sig.parameters.length)
    (hstack : g.stack = argsL.reverse ++ .ref b :: rest) (hW : 2 * g.monitorRoom + (rest.map fun v => v.category).sum ≤ W9) (hdg : decode c.code g.pc = .ok (.invokevirtual index, 3))
    (hpre : ∀ vm₁, s.WarmedH vm₁ → Pre ⟨T.setVm vm₁, locs, cells, slots⟩ (Value.ref b :: argsL).toArray) :
    (∃ (v : Option Value) (vm₁ : Vm) (B : Pt), s.WarmedH vm₁ ∧ Stand p l e R s m args below meth c B.U B.locs B.cells B.slots ∧ Post ⟨T.setVm vm₁, locs, cells, slots⟩ (Value.ref b :: argsL).toArray v B ∧
      ∀ target, Steps p.tables e below (B.U.setTop { g with pc := g.pc + 3, stack := v.toList ++ rest }) target → Steps p.tables e below (T.setTop g) target) ∨
    (∃ (q : Addr) (vm₁ : Vm) (B : Pt), s.WarmedH vm₁ ∧ Stand p l e R s m args below meth c B.U B.locs B.cells B.slots ∧ PostX ⟨T.setVm vm₁, locs, cells, slots⟩ (Value.ref b :: argsL).toArray q B ∧
      Steps p.tables e below (T.setTop g) ((B.U.setTop { g with stack := rest }).pushFrame (.throwing q))) := by
  obtain ⟨mk, methM, hnamed, hmethM, hstM, habM⟩ := Cond.instanceMethod_spec hinst
  obtain ⟨m8, methM', cM, hn8, hmethM', -, -, -, -, -, -, hsigM⟩ := Cond.codeWith_spec hcode
  cases Option.some.inj (hn8.symm.trans hnamed)
  cases hmethM.symm.trans hmethM'
  obtain ⟨c2, r2, m2, q1, q2, q3, q4, kP, hkP, hkPi⟩ := Cond.selects_spec hsel
  cases hcls.symm.trans q1
  cases (State.methodFound?_of_named hnamed hy).symm.trans q2
  cases hnamed.symm.trans q3
  have hselP : selectMethod e.platform s.vm cellB.cls mk = .method mk := by rw [Launch.admits_selectMethod X.admits]; exact q4
  obtain ⟨vm₁, X₁, hstep₁⟩ := X.invokevirtual hexec hown hlink hnamed hmethM hstM hkP hkPi hy (a := b) (cell := cellB) hcell
    (fun z h => by rw [h] at hobj; cases hobj) hselP hmethM habM hkP hkPi (g := g) hg (argsL := argsL) (rest := rest) (hlen _ hsigM) hstack hdg
  rcases hK m meth c ⟨T.setVm vm₁, locs, cells, slots⟩ { g with stack := rest } (.invokevirtual index) mk (Value.ref b :: argsL).toArray X₁ hg hsize hdg hW (X₁.named hnamed) (hpre vm₁ X₁.warmed) with ⟨v, B, X', hpost, hsteps⟩ | ⟨q, B, X', hpost, hsteps⟩
  · exact Or.inl ⟨v, vm₁, B, X₁.warmed, X', hpost, fun target h => hstep₁ _ fun acts => by rw [doInvoke_state]; exact hsteps.trans h⟩
  · exact Or.inr ⟨q, vm₁, B, X₁.warmed, X', hpost, hstep₁ _ fun acts => by rw [doInvoke_state]; exact hsteps⟩
theorem vx_callSX (X : Stand p l e R s m args below meth c T locs cells slots) (hexec : p.tables.exec = Jvm.exec) {own : String} {index : Nat} {y : MethodName} {bytes : ByteArray} {maxL : Nat} {ret : Option FieldType} {hh : List (Nat × Nat × Nat × Nat)}
    (hown : s.vm.findClass own = some m.cls) (hlink : (Cond.methodLink own index y).before args s = true) (hstat : (Cond.static y).before args s = true) (hinit : (Cond.initialized y.cls).before args s = true)
    (hcode : (Cond.codeWith y bytes maxL ret hh).before args s = true) (hy : y.cls ≠ "java/lang/invoke/MethodHandle" ∧ y.cls ≠ "java/lang/invoke/VarHandle")
    {W9 : Nat} {Pre : Pt → Array Value → Prop} {Post : Pt → Array Value → Option Value → Pt → Prop} {PostX : Pt → Array Value → Addr → Pt → Prop} (hK : vx_Back l R p e below s args y 3 W9 Pre Post PostX)
    {g : JFrame} (hg : g.method = m) (hsize : g.locals.size = c.maxLocals) {argsL rest : List Value} (hlen : ∀ sig, parseMethodDescriptor y.desc = some sig → argsL.length = sig.parameters.length)
    (hstack : g.stack = argsL.reverse ++ rest) (hW : 2 * g.monitorRoom + (rest.map fun v => v.category).sum ≤ W9) (hdg : decode c.code g.pc = .ok (.invokestatic index, 3))
    (hpre : ∀ vm₁, s.WarmedH vm₁ → Pre ⟨T.setVm vm₁, locs, cells, slots⟩ argsL.toArray) :
    (∃ (v : Option Value) (vm₁ : Vm) (B : Pt), s.WarmedH vm₁ ∧ Stand p l e R s m args below meth c B.U B.locs B.cells B.slots ∧ Post ⟨T.setVm vm₁, locs, cells, slots⟩ argsL.toArray v B ∧
      ∀ target, Steps p.tables e below (B.U.setTop { g with pc := g.pc + 3, stack := v.toList ++ rest }) target → Steps p.tables e below (T.setTop g) target) ∨
    (∃ (q : Addr) (vm₁ : Vm) (B : Pt), s.WarmedH vm₁ ∧ Stand p l e R s m args below meth c B.U B.locs B.cells B.slots ∧ PostX ⟨T.setVm vm₁, locs, cells, slots⟩ argsL.toArray q B ∧
      Steps p.tables e below (T.setTop g) ((B.U.setTop { g with stack := rest }).pushFrame (.throwing q))) := by
  obtain ⟨mk, methM, cM, hnamed, hmethM, -, -, -, -, -, -, hsigM⟩ := Cond.codeWith_spec hcode
  have hstatic : methM.isStatic = true := Cond.static_spec hnamed hmethM hstat
  obtain ⟨kP, hkP, -⟩ := className_of_methodNamed hnamed
  have hinitP : kP.init = .initialized := Cond.initialized_spec (findClass_of_methodNamed hnamed) hkP hinit
  obtain ⟨vm₁, X₁, hstep₁⟩ := X.invokestatic hexec hown hlink hnamed hmethM hstatic hkP hinitP hy (g := g) hg (argsL := argsL) (rest := rest) (hlen _ hsigM) hstack hdg
  rcases hK m meth c ⟨T.setVm vm₁, locs, cells, slots⟩ { g with stack := rest } (.invokestatic index) mk argsL.toArray X₁ hg hsize hdg hW (X₁.named hnamed) (hpre vm₁ X₁.warmed) with ⟨v, B, X', hpost, hsteps⟩ | ⟨q, B, X', hpost, hsteps⟩
  · exact Or.inl ⟨v, vm₁, B, X₁.warmed, X', hpost, fun target h => hstep₁ _ fun acts => by rw [doInvoke_state]; exact hsteps.trans h⟩
  · exact Or.inr ⟨q, vm₁, B, X₁.warmed, X', hpost, hstep₁ _ fun acts => by rw [doInvoke_state]; exact hsteps⟩
theorem vx_callVW (X : Stand p l e R s m args below meth c T locs cells slots) (hexec : p.tables.exec = Jvm.exec) {own C : String} {index : Nat} {y : MethodName} {bytes : ByteArray} {maxL : Nat} {ret : Option FieldType} {hh : List (Nat × Nat × Nat × Nat)}
    (hown : s.vm.findClass own = some m.cls) (hlink : (Cond.methodLink own index y).before args s = true) (hinst : (Cond.instanceMethod y).before args s = true) (hsel : (Cond.selects C y y).before args s = true)
    (hcode : (Cond.codeWith y bytes maxL ret hh).before args s = true) (hy : y.cls ≠ "java/lang/invoke/MethodHandle" ∧ y.cls ≠ "java/lang/invoke/VarHandle")
    {W9 : Nat} {Pre : Pt → Array Value → Prop} {Post : Pt → Array Value → Option Value → Pt → Prop} (hK : Back l R p e below s args y 3 W9 Pre Post)
    {b : Addr} {cellB : Cell} (hcell : T.heap[b]? = some cellB) (hobj : cellB.vm.isStatics = false) (hcls : s.vm.findClass C = some cellB.cls)
    {g : JFrame} (hg : g.method = m) (hsize : g.locals.size = c.maxLocals) {argsL rest : List Value} (hlen : ∀ sig, parseMethodDescriptor y.desc = some sig → argsL.length = sig.parameters.length)
    (hstack : g.stack = argsL.reverse ++ .ref b :: rest) (hW : 2 * g.monitorRoom + (rest.map fun v => v.category).sum ≤ W9) (hdg : decode c.code g.pc = .ok (.invokevirtual index, 3))
    (hpre : ∀ vm₁, s.WarmedH vm₁ → Pre ⟨T.setVm vm₁, locs, cells, slots⟩ (Value.ref b :: argsL).toArray) :
    ∃ (v : Option Value) (vm₁ : Vm) (B : Pt), s.WarmedH vm₁ ∧ Stand p l e R s m args below meth c B.U B.locs B.cells B.slots ∧ Post ⟨T.setVm vm₁, locs, cells, slots⟩ (Value.ref b :: argsL).toArray v B ∧
      ∀ target, Steps p.tables e below (B.U.setTop { g with pc := g.pc + 3, stack := v.toList ++ rest }) target → Steps p.tables e below (T.setTop g) target := by
  obtain ⟨mk, methM, hnamed, hmethM, hstM, habM⟩ := Cond.instanceMethod_spec hinst
  obtain ⟨m8, methM', cM, hn8, hmethM', -, -, -, -, -, -, hsigM⟩ := Cond.codeWith_spec hcode
  cases Option.some.inj (hn8.symm.trans hnamed)
  cases hmethM.symm.trans hmethM'
  obtain ⟨c2, r2, m2, q1, q2, q3, q4, kP, hkP, hkPi⟩ := Cond.selects_spec hsel
  cases hcls.symm.trans q1
  cases (State.methodFound?_of_named hnamed hy).symm.trans q2
  cases hnamed.symm.trans q3
  have hselP : selectMethod e.platform s.vm cellB.cls mk = .method mk := by rw [Launch.admits_selectMethod X.admits]; exact q4
  obtain ⟨vm₁, X₁, hstep₁⟩ := X.invokevirtual hexec hown hlink hnamed hmethM hstM hkP hkPi hy (a := b) (cell := cellB) hcell
    (fun z h => by rw [h] at hobj; cases hobj) hselP hmethM habM hkP hkPi (g := g) hg (argsL := argsL) (rest := rest) (hlen _ hsigM) hstack hdg
  obtain ⟨v, B, X', hpost, hsteps⟩ := hK m meth c ⟨T.setVm vm₁, locs, cells, slots⟩ { g with stack := rest } (.invokevirtual index) mk (Value.ref b :: argsL).toArray X₁ hg hsize hdg hW (X₁.named hnamed) (hpre vm₁ X₁.warmed)
  exact ⟨v, vm₁, B, X₁.warmed, X', hpost, fun target h => hstep₁ _ fun acts => by rw [doInvoke_state]; exact hsteps.trans h⟩
abbrev vx_CVW (R : Room) (s : State) (args : Array Value) (own C : String) (index : Nat) (y : MethodName) (bytes : ByteArray) (maxL : Nat) (ret : Option FieldType) (hh : List (Nat × Nat × Nat × Nat)) (ws : List Cond) (rm : Room) (mc ms n : Nat) : Prop :=
  (rm.cells = mc ∧ rm.slots = ms ∧ rm.frames + 1 ≤ R.frames ∧ 8 + (maxL + 11) + rm.locals ≤ R.locals ∧ (∀ w ∈ ws, ∀ (a' : Array Value) (U : State), s.WarmedH U.vm → w.before a' U = true) ∧ Cond.codeWith y bytes maxL ret hh ∈ ws) ∧
  (Cond.codeWith y bytes maxL ret hh).before args s = true ∧ (Cond.initialized y.cls).before args s = true ∧ (y.cls ≠ "java/lang/invoke/MethodHandle" ∧ y.cls ≠ "java/lang/invoke/VarHandle") ∧
  (∀ sig, parseMethodDescriptor y.desc = some sig → n = sig.parameters.length) ∧ (Cond.methodLink own index y).before args s = true ∧ (Cond.instanceMethod y).before args s = true ∧ (Cond.selects C y y).before args s = true
theorem vx_cwVW {own C : String} {index maxL mc ms : Nat} {y : MethodName} {bytes : ByteArray} {ret : Option FieldType} {hh : List (Nat × Nat × Nat × Nat)} {Ts ws ws' : List Cond} {rm : Room} (n : Nat) (ht : ∀ w ∈ Ts, w.before args s = true) (hT : GoodIn Ts (wsV own index C y ws)) (hw : ws = Cond.codeWith y bytes maxL ret hh :: ws') (hrc : rm.cells = mc) (hrs : rm.slots = ms)
    (hd : y.cls = C ∧ y.cls ≠ "java/lang/invoke/MethodHandle" ∧ y.cls ≠ "java/lang/invoke/VarHandle" ∧ (parseMethodDescriptor y.desc).map (fun d => d.parameters.length) = some n) (hR : rm.frames + 1 ≤ R.frames ∧ 8 + (maxL + 11) + rm.locals ≤ R.locals) :
    vx_CVW R s args own C index y bytes maxL ret hh ws rm mc ms n := by
  obtain ⟨hC, hd⟩ := hd
  subst hC
  have ok : ∀ w ∈ wsV own index y.cls y ws, w.before args s = true := fun w h => ht w (hT w h).1
  have hG : GoodIn Ts ws := fun w h => hT w (by unfold wsV; exact List.mem_append_right _ h)
  have hc : Cond.codeWith y bytes maxL ret hh ∈ ws := by rw [hw]; exact List.mem_cons_self
  refine ⟨⟨hrc, hrs, hR.1, hR.2, pay_in ht hG, hc⟩, ht _ (hG _ hc).1, ok _ (by simp [wsV]), ⟨hd.1, hd.2.1⟩, fun sig h => ?_, ok _ (by simp [wsV]), ok _ (by simp [wsV]), ok _ (by simp [wsV])⟩
  have h2 := hd.2.2
  rw [h] at h2
  exact (Option.some.inj h2).symm
theorem vx_runVW {y : MethodName} {bytes cc : ByteArray} {maxL nL mc ms n index : Nat} {ret : Option FieldType} {hh : List (Nat × Nat × Nat × Nat)} {ws : List Cond} {rm : Room} {Pc : Array Value → State → Prop} {Qc : Array Value → State → Outcome → State → Prop} {free : Addr → Prop} {Ts : List Cond} {own C : String} {b : Addr} {As rest : List Value} {g : JFrame}
    (S : CallFix p m c cc nL s args Ts own) (hM : Met l y ws rm Pc Qc mc ms free) (cw : vx_CVW R s args own C index y bytes maxL ret hh ws rm mc ms n) (hp : PreV s H C b Pc As)
    (hg : g.method = m) (hn : As.length = n) (hsize : g.locals.size = nL) (hstack : g.stack = As.reverse ++ .ref b :: rest) (hW : 2 * g.monitorRoom + (rest.map fun v => v.category).sum ≤ 8) (hdg : decode cc g.pc = .ok (.invokevirtual index, 3)) (hf : cells + mc ≤ R.cells ∧ slots + ms ≤ R.slots) :
    va_Run p l e R s m args below meth c H locs cells slots mc ms g rest (Qc (Value.ref b :: As).toArray) free := by
  obtain ⟨⟨hrc, hrs, hfr, hlo, hws, hcw⟩, hcode, hini, hy, hlen, hl, hin, hse⟩ := cw
  have hK : Back l R p e below s args y 3 8 (PreOf R mc ms Pc) (PostOf Qc mc ms free) := va_backW (hh := hh) (bytes := bytes) (maxL := maxL) (ret := ret) hM hp.1 hrc hrs hfr hlo hws hcw (fun a' U hW => word_at hW (Or.inl (by first | rfl | simp [Cond.onTables, Cond.keeps, Cond.steady])) hini)
  obtain ⟨hx, hb, hml, ho, -⟩ := S
  obtain ⟨-, ⟨cellB, hcB, hoB, hclB⟩, hPc⟩ := hp
  intro T hT X
  obtain ⟨v, vm₁, ⟨U', l2, c2, s2⟩, hW₁, X', ⟨g', mk, t, L, e1, e2, hq, h1, hL, h2, h3⟩, st⟩ := vx_callVW X hx (C := C) (hh := hh) (bytes := bytes) (maxL := maxL) (ret := ret) ho hl hin hse hcode hy hK (by rw [hT]; exact hcB) hoB hclB hg (hsize.trans hml.symm) (argsL := As) (rest := rest) (fun sig h => hn.trans (hlen sig h)) hstack hW (by rw [hb]; exact hdg)
    (fun vm₁ hW₁ => ⟨hf.1, hf.2, hPc (T.setVm vm₁) hT hW₁⟩)
  dsimp only [Pt.U, Pt.locs, Pt.cells, Pt.slots] at X' e1 e2 h1 h2 h3 st
  subst h1; subst h2; subst h3
  exact ⟨v, (T.setVm vm₁).calling g' mk (Value.ref b :: As).toArray, t, U', L, hT, X', hL, e1, e2, hq, st⟩
section
variable {y : MethodName} {bytes cc : ByteArray} {maxL nL mc ms n index : Nat} {ret : Option FieldType} {ws : List Cond} {rm : Room} {Pc : Array Value → State → Prop} {Qc : Array Value → State → Outcome → State → Prop} {XC : String → State → State → Prop} {free : Addr → Prop} {Ts : List Cond} {own C : String} {b : Addr} {As rest : List Value} {g : JFrame}
theorem vx_runVX {hh : List (Nat × Nat × Nat × Nat)} (S : CallFix p m c cc nL s args Ts own) (hM : vx_Met l y ws rm Pc Qc XC mc ms free) (cw : vx_CVW R s args own C index y bytes maxL ret hh ws rm mc ms n) (hp : PreV s H C b Pc As)
    (hg : g.method = m) (hn : As.length = n) (hsize : g.locals.size = nL) (hstack : g.stack = As.reverse ++ .ref b :: rest) (hW : 2 * g.monitorRoom + (rest.map fun v => v.category).sum ≤ 8) (hdg : decode cc g.pc = .ok (.invokevirtual index, 3)) (hf : cells + mc ≤ R.cells ∧ slots + ms ≤ R.slots) :
    vx_Run p l e R s m args below meth c H locs cells slots mc ms g rest (Qc (Value.ref b :: As).toArray) XC free := by
  obtain ⟨⟨hrc, hrs, hfr, hlo, hws, hcw⟩, hcode, hini, hy, hlen, hl, hin, hse⟩ := cw
  have hK : vx_Back l R p e below s args y 3 8 (PreOf R mc ms Pc) (PostOf Qc mc ms free) (vx_Post XC mc ms free) := vx_backW (hh := hh) (bytes := bytes) (maxL := maxL) (ret := ret) hM hp.1 hrc hrs hfr hlo hws hcw (fun a' U hW => word_at hW (Or.inl (by first | rfl | simp [Cond.onTables, Cond.keeps, Cond.steady])) hini)
  obtain ⟨hx, hb, hml, ho, -⟩ := S
  obtain ⟨-, ⟨cellB, hcB, hoB, hclB⟩, hPc⟩ := hp
  intro T hT X
  rcases vx_callVX X hx (C := C) (hh := hh) (bytes := bytes) (maxL := maxL) (ret := ret) ho hl hin hse hcode hy hK (by rw [hT]; exact hcB) hoB hclB hg (hsize.trans hml.symm) (argsL := As) (rest := rest) (fun sig h => hn.trans (hlen sig h)) hstack hW (by rw [hb]; exact hdg)
    (fun vm₁ hW₁ => ⟨hf.1, hf.2, hPc (T.setVm vm₁) hT hW₁⟩) with ⟨v, vm₁, ⟨U', l2, c2, s2⟩, hW₁, X', ⟨g', mk, t, L, e1, e2, hq, h1, hL, h2, h3⟩, st⟩ | ⟨q, vm₁, ⟨U', l2, c2, s2⟩, hW₁, X', ⟨g', mk, t, L, E, ce, e1, e2, hq, hce, hcv, hcl, h1, hL, h2, h3⟩, st⟩
  · dsimp only [Pt.U, Pt.locs, Pt.cells, Pt.slots] at X' e1 e2 h1 h2 h3 st
    subst h1; subst h2; subst h3
    exact Or.inl ⟨v, (T.setVm vm₁).calling g' mk (Value.ref b :: As).toArray, t, U', L, hT, X', hL, e1, e2, hq, st⟩
  · dsimp only [Pt.U, Pt.locs, Pt.cells, Pt.slots] at X' e1 e2 h1 h2 h3 st hcl
    subst h1; subst h2; subst h3
    exact Or.inr ⟨q, (T.setVm vm₁).calling g' mk (Value.ref b :: As).toArray, t, U', L, E, ce, hT, X', hL, e1, e2, hq, hce, hcv, vx_cls hW₁ hcl, st⟩
theorem vx_runSX {hh : List (Nat × Nat × Nat × Nat)} (S : CallFix p m c cc nL s args Ts own) (hM : vx_Met l y ws rm Pc Qc XC mc ms free) (cw : vx_CSW R s args own index y bytes maxL ret hh ws rm mc ms n) (hp : PreS s H Pc As)
    (hg : g.method = m) (hn : As.length = n) (hsize : g.locals.size = nL) (hstack : g.stack = As.reverse ++ rest) (hW : 2 * g.monitorRoom + (rest.map fun v => v.category).sum ≤ 8) (hdg : decode cc g.pc = .ok (.invokestatic index, 3)) (hf : cells + mc ≤ R.cells ∧ slots + ms ≤ R.slots) :
    vx_Run p l e R s m args below meth c H locs cells slots mc ms g rest (Qc As.toArray) XC free := by
  obtain ⟨⟨hrc, hrs, hfr, hlo, hws, hcw⟩, hcode, hini, hy, hlen, hl, hstt⟩ := cw
  have hK : vx_Back l R p e below s args y 3 8 (PreOf R mc ms Pc) (PostOf Qc mc ms free) (vx_Post XC mc ms free) := vx_backW (hh := hh) (bytes := bytes) (maxL := maxL) (ret := ret) hM hp.1 hrc hrs hfr hlo hws hcw (fun a' U hW => word_at hW (Or.inl (by first | rfl | simp [Cond.onTables, Cond.keeps, Cond.steady])) hini)
  obtain ⟨hx, hb, hml, ho, -⟩ := S
  intro T hT X
  rcases vx_callSX X hx (hh := hh) (bytes := bytes) (maxL := maxL) (ret := ret) ho hl hstt hini hcode hy hK hg (hsize.trans hml.symm) (argsL := As) (rest := rest) (fun sig h => hn.trans (hlen sig h)) hstack hW (by rw [hb]; exact hdg)
    (fun vm₁ hW₁ => ⟨hf.1, hf.2, hp.2 (T.setVm vm₁) hT hW₁⟩) with ⟨v, vm₁, ⟨U', l2, c2, s2⟩, hW₁, X', ⟨g', mk, t, L, e1, e2, hq, h1, hL, h2, h3⟩, st⟩ | ⟨q, vm₁, ⟨U', l2, c2, s2⟩, hW₁, X', ⟨g', mk, t, L, E, ce, e1, e2, hq, hce, hcv, hcl, h1, hL, h2, h3⟩, st⟩
  · dsimp only [Pt.U, Pt.locs, Pt.cells, Pt.slots] at X' e1 e2 h1 h2 h3 st
    subst h1; subst h2; subst h3
    exact Or.inl ⟨v, (T.setVm vm₁).calling g' mk As.toArray, t, U', L, hT, X', hL, e1, e2, hq, st⟩
  · dsimp only [Pt.U, Pt.locs, Pt.cells, Pt.slots] at X' e1 e2 h1 h2 h3 st hcl
    subst h1; subst h2; subst h3
    exact Or.inr ⟨q, (T.setVm vm₁).calling g' mk As.toArray, t, U', L, E, ce, hT, X', hL, e1, e2, hq, hce, hcv, vx_cls hW₁ hcl, st⟩
end
end VXH
theorem vx_ofWH {l : Launch} {y : MethodName} {ws ws' : List Cond} {rm : Room} {Pc : Array Value → State → Prop} {Qc : Array Value → State → Outcome → State → Prop} {XC : String → State → State → Prop} {mc ms : Nat} {free : Addr → Prop} {cc : ByteArray} {maxL : Nat} {ret : Option FieldType} {hh : List (Nat × Nat × Nat × Nat)}
    (hy : plainName y.cls = true) (hw : ws = Cond.codeWith y cc maxL ret hh :: ws')
    (body : ∀ p e s m args below meth c s₁, BodyLoose p l y (headSpec ws rm) cc maxL ret e s m args below meth c s₁ → c.maxLocals = maxL → Pc args s →
      W p l e (headSpec ws rm).room s m args below meth c s.heap [] 0 0 (vx_MQ below Qc XC args s mc ms free) (entryFrame m args maxL)) : vx_Met l y ws rm Pc Qc XC mc ms free := by
  refine MetFree.of_bodyS (code := cc) (maxLocals := maxL) (ret := ret) hy ?_ ?_
  · intro args s m h hn
    obtain ⟨m9, meth, c, hn9, h1, h2, h3, h4, -, h5, h6, -⟩ := Cond.codeWith_spec (atoms_spec (ws := ws) h _ (by rw [hw]; exact List.mem_cons_self))
    cases hn.symm.trans hn9
    exact ⟨meth, c, h1, h2, h3, h4, h5, h6⟩
  · intro p e s m args below meth c s₁ B hml hP _
    have hh0 : s₁.heap = s.heap := by rw [B.state]; rfl
    obtain ⟨t, a1, o, b1, b2, b3⟩ := body p e s m args below meth c s₁ B hml hP s₁ hh0 (Stand.of_body B)
    exact ⟨t, o, a1, b1, b2, b3⟩
/-! ===== END ===== -/

/-! ===== BEGIN printed: names, fields, word lists, decode rows ===== -/
def RX0 : String := "WornDots$1"
def TX0 : u_T := fun k => match k with
  | _ => ("", "", "", false)
def tyX0 : Nat → FieldType := fun k => match k with
  | _ => .int
abbrev wsX00 : List Cond := u_ws RX0 TX0 0
theorem nmX0 : ∀ a, a < 0 → ∀ b, b < 0 → a ≠ b → (TX0 a).2.1 ≠ (TX0 b).2.1 := by decide +kernel
theorem tyX0_ok : ∀ k, k < 0 → parseFieldDescriptor (TX0 k).2.2.1 = some (tyX0 k) := by decide +kernel
def RX1 : String := "WornDots$CommandText"
def TX1 : u_T := fun k => match k with
  | 0 => ("WornDots$CommandText", "bytes", "[C", true)
  | 1 => ("WornDots$CommandText", "length", "I", false)
  | 2 => ("WornDots$CommandText", "place", "I", false)
  | 3 => ("WornDots$CommandText", "fault", "I", false)
  | 4 => ("WornDots$CommandText", "word", "LWornDots$Word;", false)
  | _ => ("WornDots$CommandText", "numbers", "[I", true)
def tyX1 : Nat → FieldType := fun k => match k with
  | 0 => .array .char
  | 1 => .int
  | 2 => .int
  | 3 => .int
  | 4 => .object "WornDots$Word"
  | _ => .array .int
abbrev wsX10 : List Cond := u_ws RX1 TX1 6
theorem nmX1 : ∀ a, a < 6 → ∀ b, b < 6 → a ≠ b → (TX1 a).2.1 ≠ (TX1 b).2.1 := by decide +kernel
theorem tyX1_ok : ∀ k, k < 6 → parseFieldDescriptor (TX1 k).2.2.1 = some (tyX1 k) := by decide +kernel
abbrev cX1_init : ByteArray := prog_3_method_1_code
def yX1_init : MethodName := ⟨RX1, "<init>", "()V"⟩
abbrev cX1_whyNotAppend : ByteArray := prog_3_method_2_code
def yX1_whyNotAppend : MethodName := ⟨RX1, "whyNotAppend", "(I)I"⟩
abbrev cX1_append : ByteArray := prog_3_method_3_code
def yX1_append : MethodName := ⟨RX1, "append", "(I)I"⟩
abbrev cX1_empty : ByteArray := prog_3_method_4_code
def yX1_empty : MethodName := ⟨RX1, "empty", "()I"⟩
abbrev cX1_rewind : ByteArray := prog_3_method_5_code
def yX1_rewind : MethodName := ⟨RX1, "rewind", "()V"⟩
abbrev cX1_findFault : ByteArray := prog_3_method_6_code
def yX1_findFault : MethodName := ⟨RX1, "findFault", "()I"⟩
abbrev cX1_readCommand : ByteArray := prog_3_method_7_code
def yX1_readCommand : MethodName := ⟨RX1, "readCommand", "()Z"⟩
abbrev cX1_skipSpaces : ByteArray := prog_3_method_8_code
def yX1_skipSpaces : MethodName := ⟨RX1, "skipSpaces", "()V"⟩
abbrev cX1_skipLetters : ByteArray := prog_3_method_9_code
def yX1_skipLetters : MethodName := ⟨RX1, "skipLetters", "()V"⟩
abbrev cX1_wordBetween : ByteArray := prog_3_method_10_code
def yX1_wordBetween : MethodName := ⟨RX1, "wordBetween", "(II)LWornDots$Word;"⟩
abbrev cX1_isBetween : ByteArray := prog_3_method_11_code
def yX1_isBetween : MethodName := ⟨RX1, "isBetween", "(Ljava/lang/String;II)Z"⟩
abbrev cX1_readNumbers : ByteArray := prog_3_method_12_code
def yX1_readNumbers : MethodName := ⟨RX1, "readNumbers", "(I)Z"⟩
abbrev cX1_readNumber : ByteArray := prog_3_method_13_code
def yX1_readNumber : MethodName := ⟨RX1, "readNumber", "(I)Z"⟩
abbrev cX1_readSemicolon : ByteArray := prog_3_method_14_code
def yX1_readSemicolon : MethodName := ⟨RX1, "readSemicolon", "()Z"⟩
def RX2 : String := "WornDots$Customer"
def TX2 : u_T := fun k => match k with
  | 0 => ("WornDots$Customer", "first", "I", false)
  | 1 => ("WornDots$Customer", "last", "I", false)
  | 2 => ("WornDots$Customer", "paid", "I", false)
  | 3 => ("WornDots$Customer", "paidBack", "I", false)
  | 4 => ("WornDots$Customer", "printed", "I", false)
  | _ => ("WornDots$Customer", "failed", "I", false)
def tyX2 : Nat → FieldType := fun k => match k with
  | 0 => .int
  | 1 => .int
  | 2 => .int
  | 3 => .int
  | 4 => .int
  | _ => .int
abbrev wsX20 : List Cond := u_ws RX2 TX2 6
theorem nmX2 : ∀ a, a < 6 → ∀ b, b < 6 → a ≠ b → (TX2 a).2.1 ≠ (TX2 b).2.1 := by decide +kernel
theorem tyX2_ok : ∀ k, k < 6 → parseFieldDescriptor (TX2 k).2.2.1 = some (tyX2 k) := by decide +kernel
abbrev cX2_init : ByteArray := prog_4_method_1_code
def yX2_init : MethodName := ⟨RX2, "<init>", "()V"⟩
abbrev cX2_takeOver : ByteArray := prog_4_method_2_code
def yX2_takeOver : MethodName := ⟨RX2, "takeOver", "(LWornDots$Customer;)V"⟩
abbrev cX2_rentNothing : ByteArray := prog_4_method_3_code
def yX2_rentNothing : MethodName := ⟨RX2, "rentNothing", "()V"⟩
abbrev cX2_rented : ByteArray := prog_4_method_4_code
def yX2_rented : MethodName := ⟨RX2, "rented", "()I"⟩
abbrev cX2_rentsOneOf : ByteArray := prog_4_method_5_code
def yX2_rentsOneOf : MethodName := ⟨RX2, "rentsOneOf", "(II)Z"⟩
abbrev cX2_rentsAllOf : ByteArray := prog_4_method_6_code
def yX2_rentsAllOf : MethodName := ⟨RX2, "rentsAllOf", "(II)Z"⟩
abbrev cX2_value : ByteArray := prog_4_method_7_code
def yX2_value : MethodName := ⟨RX2, "value", "(I)I"⟩
def RX3 : String := "WornDots$Head"
def TX3 : u_T := fun k => match k with
  | 0 => ("WornDots$Head", "dots", "I", false)
  | 1 => ("WornDots$Head", "burntInAll", "I", false)
  | 2 => ("WornDots$Head", "heat", "[I", true)
  | 3 => ("WornDots$Head", "wear", "[I", true)
  | _ => ("WornDots$Head", "burnt", "[I", true)
def tyX3 : Nat → FieldType := fun k => match k with
  | 0 => .int
  | 1 => .int
  | 2 => .array .int
  | 3 => .array .int
  | _ => .array .int
abbrev wsX30 : List Cond := u_ws RX3 TX3 5
theorem nmX3 : ∀ a, a < 5 → ∀ b, b < 5 → a ≠ b → (TX3 a).2.1 ≠ (TX3 b).2.1 := by decide +kernel
theorem tyX3_ok : ∀ k, k < 5 → parseFieldDescriptor (TX3 k).2.2.1 = some (tyX3 k) := by decide +kernel
abbrev cX3_init : ByteArray := prog_5_method_1_code
def yX3_init : MethodName := ⟨RX3, "<init>", "()V"⟩
abbrev cX3_takeOver : ByteArray := prog_5_method_2_code
def yX3_takeOver : MethodName := ⟨RX3, "takeOver", "(LWornDots$Head;)V"⟩
abbrev cX3_takePart : ByteArray := prog_5_method_3_code
def yX3_takePart : MethodName := ⟨RX3, "takePart", "(LWornDots$Head;II)V"⟩
abbrev cX3_renewAll : ByteArray := prog_5_method_4_code
def yX3_renewAll : MethodName := ⟨RX3, "renewAll", "(I)V"⟩
abbrev cX3_renew : ByteArray := prog_5_method_5_code
def yX3_renew : MethodName := ⟨RX3, "renew", "(I)V"⟩
abbrev cX3_lose : ByteArray := prog_5_method_6_code
def yX3_lose : MethodName := ⟨RX3, "lose", "(I)V"⟩
abbrev cX3_heatSum : ByteArray := prog_5_method_7_code
def yX3_heatSum : MethodName := ⟨RX3, "heatSum", "()I"⟩
abbrev cX3_wearSum : ByteArray := prog_5_method_8_code
def yX3_wearSum : MethodName := ⟨RX3, "wearSum", "(II)I"⟩
abbrev cX3_mostWornDot : ByteArray := prog_5_method_9_code
def yX3_mostWornDot : MethodName := ⟨RX3, "mostWornDot", "()I"⟩
abbrev cX3_fadeOf : ByteArray := prog_5_method_10_code
def yX3_fadeOf : MethodName := ⟨RX3, "fadeOf", "(I[I)I"⟩
abbrev cX3_printRows : ByteArray := prog_5_method_11_code
def yX3_printRows : MethodName := ⟨RX3, "printRows", "(LWornDots$Label;I[I)I"⟩
abbrev cX3_burn : ByteArray := prog_5_method_12_code
def yX3_burn : MethodName := ⟨RX3, "burn", "(II)V"⟩
def RX4 : String := "WornDots$Label"
def TX4 : u_T := fun k => match k with
  | 0 => ("WornDots$Label", "width", "I", false)
  | 1 => ("WornDots$Label", "blackness", "I", false)
  | 2 => ("WornDots$Label", "printed", "I", false)
  | 3 => ("WornDots$Label", "failed", "I", false)
  | _ => ("WornDots$Label", "rows", "[I", true)
def tyX4 : Nat → FieldType := fun k => match k with
  | 0 => .int
  | 1 => .int
  | 2 => .int
  | 3 => .int
  | _ => .array .int
abbrev wsX40 : List Cond := u_ws RX4 TX4 5
theorem nmX4 : ∀ a, a < 5 → ∀ b, b < 5 → a ≠ b → (TX4 a).2.1 ≠ (TX4 b).2.1 := by decide +kernel
theorem tyX4_ok : ∀ k, k < 5 → parseFieldDescriptor (TX4 k).2.2.1 = some (tyX4 k) := by decide +kernel
abbrev cX4_init : ByteArray := prog_6_method_1_code
def yX4_init : MethodName := ⟨RX4, "<init>", "()V"⟩
abbrev cX4_takeOver : ByteArray := prog_6_method_2_code
def yX4_takeOver : MethodName := ⟨RX4, "takeOver", "(LWornDots$Label;)V"⟩
abbrev cX4_allColumns : ByteArray := prog_6_method_3_code
def yX4_allColumns : MethodName := ⟨RX4, "allColumns", "()I"⟩
abbrev cX4_blackCells : ByteArray := prog_6_method_4_code
def yX4_blackCells : MethodName := ⟨RX4, "blackCells", "()I"⟩
abbrev cX4_emptyColumns : ByteArray := prog_6_method_5_code
def yX4_emptyColumns : MethodName := ⟨RX4, "emptyColumns", "()I"⟩
abbrev cX4_value : ByteArray := prog_6_method_6_code
def yX4_value : MethodName := ⟨RX4, "value", "(I)I"⟩
def RX5 : String := "WornDots$State"
def TX5 : u_T := fun k => match k with
  | 0 => ("WornDots$State", "head", "LWornDots$Head;", true)
  | 1 => ("WornDots$State", "trial", "LWornDots$Head;", true)
  | 2 => ("WornDots$State", "settings", "[I", true)
  | 3 => ("WornDots$State", "labels", "[LWornDots$Label;", true)
  | 4 => ("WornDots$State", "labelCount", "I", false)
  | 5 => ("WornDots$State", "customers", "[LWornDots$Customer;", true)
  | 6 => ("WornDots$State", "customerCount", "I", false)
  | _ => ("WornDots$State", "lines", "I", false)
def tyX5 : Nat → FieldType := fun k => match k with
  | 0 => .object "WornDots$Head"
  | 1 => .object "WornDots$Head"
  | 2 => .array .int
  | 3 => .array (.object "WornDots$Label")
  | 4 => .int
  | 5 => .array (.object "WornDots$Customer")
  | 6 => .int
  | _ => .int
abbrev wsX50 : List Cond := u_ws RX5 TX5 8
theorem nmX5 : ∀ a, a < 8 → ∀ b, b < 8 → a ≠ b → (TX5 a).2.1 ≠ (TX5 b).2.1 := by decide +kernel
theorem tyX5_ok : ∀ k, k < 8 → parseFieldDescriptor (TX5 k).2.2.1 = some (tyX5 k) := by decide +kernel
abbrev cX5_init : ByteArray := prog_7_method_1_code
def yX5_init : MethodName := ⟨RX5, "<init>", "(LWornDots$Head;)V"⟩
abbrev cX5_takeOver : ByteArray := prog_7_method_2_code
def yX5_takeOver : MethodName := ⟨RX5, "takeOver", "(LWornDots$State;)V"⟩
abbrev cX5_hasDot : ByteArray := prog_7_method_3_code
def yX5_hasDot : MethodName := ⟨RX5, "hasDot", "(I)Z"⟩
abbrev cX5_hasLabel : ByteArray := prog_7_method_4_code
def yX5_hasLabel : MethodName := ⟨RX5, "hasLabel", "(I)Z"⟩
abbrev cX5_hasCustomer : ByteArray := prog_7_method_5_code
def yX5_hasCustomer : MethodName := ⟨RX5, "hasCustomer", "(I)Z"⟩
abbrev cX5_whyNotNewHead : ByteArray := prog_7_method_6_code
def yX5_whyNotNewHead : MethodName := ⟨RX5, "whyNotNewHead", "(I)I"⟩
abbrev cX5_newHead : ByteArray := prog_7_method_7_code
def yX5_newHead : MethodName := ⟨RX5, "newHead", "(I)I"⟩
abbrev cX5_whyNotChangeSetting : ByteArray := prog_7_method_8_code
def yX5_whyNotChangeSetting : MethodName := ⟨RX5, "whyNotChangeSetting", "(II)I"⟩
abbrev cX5_changeSetting : ByteArray := prog_7_method_9_code
def yX5_changeSetting : MethodName := ⟨RX5, "changeSetting", "(II)I"⟩
abbrev cX5_whyNotNewLabel : ByteArray := prog_7_method_10_code
def yX5_whyNotNewLabel : MethodName := ⟨RX5, "whyNotNewLabel", "(II)I"⟩
abbrev cX5_newLabel : ByteArray := prog_7_method_11_code
def yX5_newLabel : MethodName := ⟨RX5, "newLabel", "(II)I"⟩
abbrev cX5_whyNotChangeRow : ByteArray := prog_7_method_12_code
def yX5_whyNotChangeRow : MethodName := ⟨RX5, "whyNotChangeRow", "(III)I"⟩
abbrev cX5_changeRow : ByteArray := prog_7_method_13_code
def yX5_changeRow : MethodName := ⟨RX5, "changeRow", "(III)I"⟩
abbrev cX5_whyNotNewDot : ByteArray := prog_7_method_14_code
def yX5_whyNotNewDot : MethodName := ⟨RX5, "whyNotNewDot", "(I)I"⟩
abbrev cX5_newDot : ByteArray := prog_7_method_15_code
def yX5_newDot : MethodName := ⟨RX5, "newDot", "(I)I"⟩
abbrev cX5_whyNotPassLines : ByteArray := prog_7_method_16_code
def yX5_whyNotPassLines : MethodName := ⟨RX5, "whyNotPassLines", "(I)I"⟩
abbrev cX5_passLines : ByteArray := prog_7_method_17_code
def yX5_passLines : MethodName := ⟨RX5, "passLines", "(I)I"⟩
abbrev cX5_whyNotNewCustomer : ByteArray := prog_7_method_18_code
def yX5_whyNotNewCustomer : MethodName := ⟨RX5, "whyNotNewCustomer", "()I"⟩
abbrev cX5_newCustomer : ByteArray := prog_7_method_19_code
def yX5_newCustomer : MethodName := ⟨RX5, "newCustomer", "()I"⟩
abbrev cX5_whyNotLet : ByteArray := prog_7_method_20_code
def yX5_whyNotLet : MethodName := ⟨RX5, "whyNotLet", "(III)I"⟩
abbrev cX5_let : ByteArray := prog_7_method_21_code
def yX5_let : MethodName := ⟨RX5, "let", "(III)I"⟩
abbrev cX5_whyNotEndLet : ByteArray := prog_7_method_22_code
def yX5_whyNotEndLet : MethodName := ⟨RX5, "whyNotEndLet", "(I)I"⟩
abbrev cX5_endLet : ByteArray := prog_7_method_23_code
def yX5_endLet : MethodName := ⟨RX5, "endLet", "(I)I"⟩
abbrev cX5_whyNotPair : ByteArray := prog_7_method_24_code
def yX5_whyNotPair : MethodName := ⟨RX5, "whyNotPair", "(II)I"⟩
abbrev cX5_whyNotAskAbout : ByteArray := prog_7_method_25_code
def yX5_whyNotAskAbout : MethodName := ⟨RX5, "whyNotAskAbout", "(III)I"⟩
abbrev cX5_whyNotPrintAt : ByteArray := prog_7_method_26_code
def yX5_whyNotPrintAt : MethodName := ⟨RX5, "whyNotPrintAt", "(III)I"⟩
abbrev cX5_printAt : ByteArray := prog_7_method_27_code
def yX5_printAt : MethodName := ⟨RX5, "printAt", "(III)I"⟩
abbrev cX5_book : ByteArray := prog_7_method_28_code
def yX5_book : MethodName := ⟨RX5, "book", "(LWornDots$Customer;LWornDots$Label;IZ)V"⟩
abbrev cX5_whyNotPrintAtBest : ByteArray := prog_7_method_29_code
def yX5_whyNotPrintAtBest : MethodName := ⟨RX5, "whyNotPrintAtBest", "(II)I"⟩
abbrev cX5_printAtBest : ByteArray := prog_7_method_30_code
def yX5_printAtBest : MethodName := ⟨RX5, "printAtBest", "(II)I"⟩
abbrev cX5_whyNotDotValue : ByteArray := prog_7_method_31_code
def yX5_whyNotDotValue : MethodName := ⟨RX5, "whyNotDotValue", "(II)I"⟩
abbrev cX5_dotValue : ByteArray := prog_7_method_32_code
def yX5_dotValue : MethodName := ⟨RX5, "dotValue", "(II)I"⟩
abbrev cX5_whyNotLabelValue : ByteArray := prog_7_method_33_code
def yX5_whyNotLabelValue : MethodName := ⟨RX5, "whyNotLabelValue", "(III)I"⟩
abbrev cX5_whyNotCustomerValue : ByteArray := prog_7_method_34_code
def yX5_whyNotCustomerValue : MethodName := ⟨RX5, "whyNotCustomerValue", "(II)I"⟩
abbrev cX5_wholeValue : ByteArray := prog_7_method_35_code
def yX5_wholeValue : MethodName := ⟨RX5, "wholeValue", "(I)I"⟩
abbrev cX5_allWear : ByteArray := prog_7_method_36_code
def yX5_allWear : MethodName := ⟨RX5, "allWear", "()I"⟩
abbrev cX5_allPrinted : ByteArray := prog_7_method_37_code
def yX5_allPrinted : MethodName := ⟨RX5, "allPrinted", "()I"⟩
abbrev cX5_allFailed : ByteArray := prog_7_method_38_code
def yX5_allFailed : MethodName := ⟨RX5, "allFailed", "()I"⟩
abbrev cX5_allEarned : ByteArray := prog_7_method_39_code
def yX5_allEarned : MethodName := ⟨RX5, "allEarned", "()I"⟩
abbrev cX5_allRented : ByteArray := prog_7_method_40_code
def yX5_allRented : MethodName := ⟨RX5, "allRented", "()I"⟩
abbrev cX5_renterOf : ByteArray := prog_7_method_41_code
def yX5_renterOf : MethodName := ⟨RX5, "renterOf", "(I)I"⟩
abbrev cX5_othersRentOneOf : ByteArray := prog_7_method_42_code
def yX5_othersRentOneOf : MethodName := ⟨RX5, "othersRentOneOf", "(III)Z"⟩
abbrev cX5_reasonAt : ByteArray := prog_7_method_43_code
def yX5_reasonAt : MethodName := ⟨RX5, "reasonAt", "(III)I"⟩
abbrev cX5_priceAt : ByteArray := prog_7_method_44_code
def yX5_priceAt : MethodName := ⟨RX5, "priceAt", "(III)I"⟩
abbrev cX5_unreadableAt : ByteArray := prog_7_method_45_code
def yX5_unreadableAt : MethodName := ⟨RX5, "unreadableAt", "(II)I"⟩
abbrev cX5_readableAt : ByteArray := prog_7_method_46_code
def yX5_readableAt : MethodName := ⟨RX5, "readableAt", "(II)I"⟩
abbrev cX5_bestPlace : ByteArray := prog_7_method_47_code
def yX5_bestPlace : MethodName := ⟨RX5, "bestPlace", "(II)I"⟩
abbrev cX5_whyNotCarryOut : ByteArray := prog_7_method_48_code
def yX5_whyNotCarryOut : MethodName := ⟨RX5, "whyNotCarryOut", "(LWornDots$Word;[I)I"⟩
abbrev cX5_carryOut : ByteArray := prog_7_method_49_code
def yX5_carryOut : MethodName := ⟨RX5, "carryOut", "(LWornDots$Word;[I)I"⟩
def RX6 : String := "WornDots$Word"
def TX6 : u_T := fun k => match k with
  | _ => ("", "", "", false)
def tyX6 : Nat → FieldType := fun k => match k with
  | _ => .int
abbrev wsX60 : List Cond := u_ws RX6 TX6 0
theorem nmX6 : ∀ a, a < 0 → ∀ b, b < 0 → a ≠ b → (TX6 a).2.1 ≠ (TX6 b).2.1 := by decide +kernel
theorem tyX6_ok : ∀ k, k < 0 → parseFieldDescriptor (TX6 k).2.2.1 = some (tyX6 k) := by decide +kernel
def RX7 : String := "WornDots"
def TX7 : u_T := fun k => match k with
  | 0 => ("WornDots", "text", "LWornDots$CommandText;", true)
  | 1 => ("WornDots", "saved", "[LWornDots$State;", true)
  | 2 => ("WornDots", "savedCount", "I", false)
  | _ => ("WornDots", "now", "LWornDots$State;", true)
def tyX7 : Nat → FieldType := fun k => match k with
  | 0 => .object "WornDots$CommandText"
  | 1 => .array (.object "WornDots$State")
  | 2 => .int
  | _ => .object "WornDots$State"
abbrev wsX70 : List Cond := u_ws RX7 TX7 4
theorem nmX7 : ∀ a, a < 4 → ∀ b, b < 4 → a ≠ b → (TX7 a).2.1 ≠ (TX7 b).2.1 := by decide +kernel
theorem tyX7_ok : ∀ k, k < 4 → parseFieldDescriptor (TX7 k).2.2.1 = some (tyX7 k) := by decide +kernel
abbrev cX7_init : ByteArray := prog_1_method_1_code
def yX7_init : MethodName := ⟨RX7, "<init>", "()V"⟩
abbrev cX7_begin : ByteArray := prog_1_method_2_code
def yX7_begin : MethodName := ⟨RX7, "begin", "(I)I"⟩
abbrev cX7_set : ByteArray := prog_1_method_3_code
def yX7_set : MethodName := ⟨RX7, "set", "(II)I"⟩
abbrev cX7_addLabel : ByteArray := prog_1_method_4_code
def yX7_addLabel : MethodName := ⟨RX7, "addLabel", "(II)I"⟩
abbrev cX7_setRow : ByteArray := prog_1_method_5_code
def yX7_setRow : MethodName := ⟨RX7, "setRow", "(III)I"⟩
abbrev cX7_replace : ByteArray := prog_1_method_6_code
def yX7_replace : MethodName := ⟨RX7, "replace", "(I)I"⟩
abbrev cX7_cool : ByteArray := prog_1_method_7_code
def yX7_cool : MethodName := ⟨RX7, "cool", "(I)I"⟩
abbrev cX7_addCustomer : ByteArray := prog_1_method_8_code
def yX7_addCustomer : MethodName := ⟨RX7, "addCustomer", "()I"⟩
abbrev cX7_rent : ByteArray := prog_1_method_9_code
def yX7_rent : MethodName := ⟨RX7, "rent", "(III)I"⟩
abbrev cX7_endRent : ByteArray := prog_1_method_10_code
def yX7_endRent : MethodName := ⟨RX7, "endRent", "(I)I"⟩
abbrev cX7_print : ByteArray := prog_1_method_11_code
def yX7_print : MethodName := ⟨RX7, "print", "(III)I"⟩
abbrev cX7_printBest : ByteArray := prog_1_method_12_code
def yX7_printBest : MethodName := ⟨RX7, "printBest", "(II)I"⟩
abbrev cX7_dot : ByteArray := prog_1_method_13_code
def yX7_dot : MethodName := ⟨RX7, "dot", "(II)I"⟩
abbrev cX7_label : ByteArray := prog_1_method_14_code
def yX7_label : MethodName := ⟨RX7, "label", "(II)I"⟩
abbrev cX7_row : ByteArray := prog_1_method_15_code
def yX7_row : MethodName := ⟨RX7, "row", "(II)I"⟩
abbrev cX7_customer : ByteArray := prog_1_method_16_code
def yX7_customer : MethodName := ⟨RX7, "customer", "(II)I"⟩
abbrev cX7_whole : ByteArray := prog_1_method_17_code
def yX7_whole : MethodName := ⟨RX7, "whole", "(I)I"⟩
abbrev cX7_reason : ByteArray := prog_1_method_18_code
def yX7_reason : MethodName := ⟨RX7, "reason", "(III)I"⟩
abbrev cX7_price : ByteArray := prog_1_method_19_code
def yX7_price : MethodName := ⟨RX7, "price", "(III)I"⟩
abbrev cX7_unreadable : ByteArray := prog_1_method_20_code
def yX7_unreadable : MethodName := ⟨RX7, "unreadable", "(III)I"⟩
abbrev cX7_bestOffset : ByteArray := prog_1_method_21_code
def yX7_bestOffset : MethodName := ⟨RX7, "bestOffset", "(II)I"⟩
abbrev cX7_readableFor : ByteArray := prog_1_method_22_code
def yX7_readableFor : MethodName := ⟨RX7, "readableFor", "(III)I"⟩
abbrev cX7_mostWorn : ByteArray := prog_1_method_23_code
def yX7_mostWorn : MethodName := ⟨RX7, "mostWorn", "()I"⟩
abbrev cX7_type : ByteArray := prog_1_method_24_code
def yX7_type : MethodName := ⟨RX7, "type", "(I)I"⟩
abbrev cX7_clearCommands : ByteArray := prog_1_method_25_code
def yX7_clearCommands : MethodName := ⟨RX7, "clearCommands", "()I"⟩
abbrev cX7_runCommands : ByteArray := prog_1_method_26_code
def yX7_runCommands : MethodName := ⟨RX7, "runCommands", "()I"⟩
abbrev cX7_undo : ByteArray := prog_1_method_27_code
def yX7_undo : MethodName := ⟨RX7, "undo", "()I"⟩
abbrev cX7_digest : ByteArray := prog_1_method_28_code
def yX7_digest : MethodName := ⟨RX7, "digest", "()J"⟩
abbrev cX7_mixDots : ByteArray := prog_1_method_29_code
def yX7_mixDots : MethodName := ⟨RX7, "mixDots", "(J)J"⟩
abbrev cX7_mixLabels : ByteArray := prog_1_method_30_code
def yX7_mixLabels : MethodName := ⟨RX7, "mixLabels", "(J)J"⟩
abbrev cX7_mixCustomers : ByteArray := prog_1_method_31_code
def yX7_mixCustomers : MethodName := ⟨RX7, "mixCustomers", "(J)J"⟩
abbrev cX7_mix : ByteArray := prog_1_method_32_code
def yX7_mix : MethodName := ⟨RX7, "mix", "(JJ)J"⟩
abbrev cX7_refuse : ByteArray := prog_1_method_33_code
def yX7_refuse : MethodName := ⟨RX7, "refuse", "(I)V"⟩
abbrev cX7_save : ByteArray := prog_1_method_34_code
def yX7_save : MethodName := ⟨RX7, "save", "()V"⟩
def RX8 : String := "WornDotsModel"
def TX8 : u_T := fun k => match k with
  | 0 => ("WornDotsModel", "s", "[I", true)
  | 1 => ("WornDotsModel", "w", "[I", true)
  | 2 => ("WornDotsModel", "past", "[I", true)
  | 3 => ("WornDotsModel", "pasts", "I", false)
  | 4 => ("WornDotsModel", "runs", "Z", false)
  | 5 => ("WornDotsModel", "text", "[I", true)
  | 6 => ("WornDotsModel", "typed", "I", false)
  | 7 => ("WornDotsModel", "refused", "I", false)
  | 8 => ("WornDotsModel", "spot", "I", false)
  | 9 => ("WornDotsModel", "command", "I", false)
  | _ => ("WornDotsModel", "read", "[I", true)
def tyX8 : Nat → FieldType := fun k => match k with
  | 0 => .array .int
  | 1 => .array .int
  | 2 => .array .int
  | 3 => .int
  | 4 => .boolean
  | 5 => .array .int
  | 6 => .int
  | 7 => .int
  | 8 => .int
  | 9 => .int
  | _ => .array .int
abbrev wsX80 : List Cond := u_ws RX8 TX8 11
theorem nmX8 : ∀ a, a < 11 → ∀ b, b < 11 → a ≠ b → (TX8 a).2.1 ≠ (TX8 b).2.1 := by decide +kernel
theorem tyX8_ok : ∀ k, k < 11 → parseFieldDescriptor (TX8 k).2.2.1 = some (tyX8 k) := by decide +kernel
abbrev cX8_init : ByteArray := prog_10_method_1_code
def yX8_init : MethodName := ⟨RX8, "<init>", "()V"⟩
abbrev cX8_thrown : ByteArray := prog_10_method_2_code
def yX8_thrown : MethodName := ⟨RX8, "thrown", "()I"⟩
abbrev cX8_in : ByteArray := prog_10_method_3_code
def yX8_in : MethodName := ⟨RX8, "in", "(III)Z"⟩
abbrev cX8_throwsAt : ByteArray := prog_10_method_4_code
def yX8_throwsAt : MethodName := ⟨RX8, "throwsAt", "(I)Z"⟩
abbrev cX8_saves : ByteArray := prog_10_method_5_code
def yX8_saves : MethodName := ⟨RX8, "saves", "()V"⟩
abbrev cX8_isDot : ByteArray := prog_10_method_6_code
def yX8_isDot : MethodName := ⟨RX8, "isDot", "(I)Z"⟩
abbrev cX8_isLabel : ByteArray := prog_10_method_7_code
def yX8_isLabel : MethodName := ⟨RX8, "isLabel", "(I)Z"⟩
abbrev cX8_isCustomer : ByteArray := prog_10_method_8_code
def yX8_isCustomer : MethodName := ⟨RX8, "isCustomer", "(I)Z"⟩
abbrev cX8_dotOf : ByteArray := prog_10_method_9_code
def yX8_dotOf : MethodName := ⟨RX8, "dotOf", "([III)I"⟩
abbrev cX8_labelOf : ByteArray := prog_10_method_10_code
def yX8_labelOf : MethodName := ⟨RX8, "labelOf", "(II)I"⟩
abbrev cX8_customerOf : ByteArray := prog_10_method_11_code
def yX8_customerOf : MethodName := ⟨RX8, "customerOf", "(II)I"⟩
abbrev cX8_sumOf : ByteArray := prog_10_method_12_code
def yX8_sumOf : MethodName := ⟨RX8, "sumOf", "(I)I"⟩
abbrev cX8_frees : ByteArray := prog_10_method_13_code
def yX8_frees : MethodName := ⟨RX8, "frees", "(I)V"⟩
abbrev cX8_begin : ByteArray := prog_10_method_14_code
def yX8_begin : MethodName := ⟨RX8, "begin", "(I)I"⟩
abbrev cX8_least : ByteArray := prog_10_method_15_code
def yX8_least : MethodName := ⟨RX8, "least", "(I)I"⟩
abbrev cX8_most : ByteArray := prog_10_method_16_code
def yX8_most : MethodName := ⟨RX8, "most", "(I)I"⟩
abbrev cX8_set : ByteArray := prog_10_method_17_code
def yX8_set : MethodName := ⟨RX8, "set", "(II)I"⟩
abbrev cX8_addLabel : ByteArray := prog_10_method_18_code
def yX8_addLabel : MethodName := ⟨RX8, "addLabel", "(II)I"⟩
abbrev cX8_setRow : ByteArray := prog_10_method_19_code
def yX8_setRow : MethodName := ⟨RX8, "setRow", "(III)I"⟩
abbrev cX8_replace : ByteArray := prog_10_method_20_code
def yX8_replace : MethodName := ⟨RX8, "replace", "(I)I"⟩
abbrev cX8_cools : ByteArray := prog_10_method_21_code
def yX8_cools : MethodName := ⟨RX8, "cools", "([I)V"⟩
abbrev cX8_cool : ByteArray := prog_10_method_22_code
def yX8_cool : MethodName := ⟨RX8, "cool", "(I)I"⟩
abbrev cX8_addCustomer : ByteArray := prog_10_method_23_code
def yX8_addCustomer : MethodName := ⟨RX8, "addCustomer", "()I"⟩
abbrev cX8_renter : ByteArray := prog_10_method_24_code
def yX8_renter : MethodName := ⟨RX8, "renter", "(I)I"⟩
abbrev cX8_rented : ByteArray := prog_10_method_25_code
def yX8_rented : MethodName := ⟨RX8, "rented", "()I"⟩
abbrev cX8_isTaken : ByteArray := prog_10_method_26_code
def yX8_isTaken : MethodName := ⟨RX8, "isTaken", "(III)Z"⟩
abbrev cX8_rent : ByteArray := prog_10_method_27_code
def yX8_rent : MethodName := ⟨RX8, "rent", "(III)I"⟩
abbrev cX8_endRent : ByteArray := prog_10_method_28_code
def yX8_endRent : MethodName := ⟨RX8, "endRent", "(I)I"⟩
abbrev cX8_ones : ByteArray := prog_10_method_29_code
def yX8_ones : MethodName := ⟨RX8, "ones", "(I)I"⟩
abbrev cX8_blacks : ByteArray := prog_10_method_30_code
def yX8_blacks : MethodName := ⟨RX8, "blacks", "(I)I"⟩
abbrev cX8_whyNot : ByteArray := prog_10_method_31_code
def yX8_whyNot : MethodName := ⟨RX8, "whyNot", "(III)I"⟩
abbrev cX8_priceOf : ByteArray := prog_10_method_32_code
def yX8_priceOf : MethodName := ⟨RX8, "priceOf", "(III)I"⟩
abbrev cX8_fade : ByteArray := prog_10_method_33_code
def yX8_fade : MethodName := ⟨RX8, "fade", "([II)I"⟩
abbrev cX8_burns : ByteArray := prog_10_method_34_code
def yX8_burns : MethodName := ⟨RX8, "burns", "([III)V"⟩
abbrev cX8_plays : ByteArray := prog_10_method_35_code
def yX8_plays : MethodName := ⟨RX8, "plays", "([III)I"⟩
abbrev cX8_copies : ByteArray := prog_10_method_36_code
def yX8_copies : MethodName := ⟨RX8, "copies", "()V"⟩
abbrev cX8_badOf : ByteArray := prog_10_method_37_code
def yX8_badOf : MethodName := ⟨RX8, "badOf", "(II)I"⟩
abbrev cX8_best : ByteArray := prog_10_method_38_code
def yX8_best : MethodName := ⟨RX8, "best", "(II)I"⟩
abbrev cX8_prints : ByteArray := prog_10_method_39_code
def yX8_prints : MethodName := ⟨RX8, "prints", "(III)I"⟩
abbrev cX8_wrong : ByteArray := prog_10_method_40_code
def yX8_wrong : MethodName := ⟨RX8, "wrong", "(III)I"⟩
abbrev cX8_print : ByteArray := prog_10_method_41_code
def yX8_print : MethodName := ⟨RX8, "print", "(III)I"⟩
abbrev cX8_printBest : ByteArray := prog_10_method_42_code
def yX8_printBest : MethodName := ⟨RX8, "printBest", "(II)I"⟩
abbrev cX8_valueOf : ByteArray := prog_10_method_43_code
def yX8_valueOf : MethodName := ⟨RX8, "valueOf", "(II)I"⟩
abbrev cX8_dot : ByteArray := prog_10_method_44_code
def yX8_dot : MethodName := ⟨RX8, "dot", "(II)I"⟩
abbrev cX8_empties : ByteArray := prog_10_method_45_code
def yX8_empties : MethodName := ⟨RX8, "empties", "(I)I"⟩
abbrev cX8_ofLabel : ByteArray := prog_10_method_46_code
def yX8_ofLabel : MethodName := ⟨RX8, "ofLabel", "(II)I"⟩
abbrev cX8_label : ByteArray := prog_10_method_47_code
def yX8_label : MethodName := ⟨RX8, "label", "(II)I"⟩
abbrev cX8_row : ByteArray := prog_10_method_48_code
def yX8_row : MethodName := ⟨RX8, "row", "(II)I"⟩
abbrev cX8_customer : ByteArray := prog_10_method_49_code
def yX8_customer : MethodName := ⟨RX8, "customer", "(II)I"⟩
abbrev cX8_earned : ByteArray := prog_10_method_50_code
def yX8_earned : MethodName := ⟨RX8, "earned", "()I"⟩
abbrev cX8_wholeOf : ByteArray := prog_10_method_51_code
def yX8_wholeOf : MethodName := ⟨RX8, "wholeOf", "(I)I"⟩
abbrev cX8_whole : ByteArray := prog_10_method_52_code
def yX8_whole : MethodName := ⟨RX8, "whole", "(I)I"⟩
abbrev cX8_reason : ByteArray := prog_10_method_53_code
def yX8_reason : MethodName := ⟨RX8, "reason", "(III)I"⟩
abbrev cX8_price : ByteArray := prog_10_method_54_code
def yX8_price : MethodName := ⟨RX8, "price", "(III)I"⟩
abbrev cX8_unreadable : ByteArray := prog_10_method_55_code
def yX8_unreadable : MethodName := ⟨RX8, "unreadable", "(III)I"⟩
abbrev cX8_bestOffset : ByteArray := prog_10_method_56_code
def yX8_bestOffset : MethodName := ⟨RX8, "bestOffset", "(II)I"⟩
abbrev cX8_readableFor : ByteArray := prog_10_method_57_code
def yX8_readableFor : MethodName := ⟨RX8, "readableFor", "(III)I"⟩
abbrev cX8_worn : ByteArray := prog_10_method_58_code
def yX8_worn : MethodName := ⟨RX8, "worn", "()I"⟩
abbrev cX8_mostWorn : ByteArray := prog_10_method_59_code
def yX8_mostWorn : MethodName := ⟨RX8, "mostWorn", "()I"⟩
abbrev cX8_type : ByteArray := prog_10_method_60_code
def yX8_type : MethodName := ⟨RX8, "type", "(I)I"⟩
abbrev cX8_clearCommands : ByteArray := prog_10_method_61_code
def yX8_clearCommands : MethodName := ⟨RX8, "clearCommands", "()I"⟩
abbrev cX8_isAt : ByteArray := prog_10_method_62_code
def yX8_isAt : MethodName := ⟨RX8, "isAt", "(II)Z"⟩
abbrev cX8_skips : ByteArray := prog_10_method_63_code
def yX8_skips : MethodName := ⟨RX8, "skips", "()V"⟩
abbrev cX8_wordOf : ByteArray := prog_10_method_64_code
def yX8_wordOf : MethodName := ⟨RX8, "wordOf", "(II)J"⟩
abbrev cX8_code : ByteArray := prog_10_method_65_code
def yX8_code : MethodName := ⟨RX8, "code", "(IIIIII)J"⟩
abbrev cX8_commandOf : ByteArray := prog_10_method_66_code
def yX8_commandOf : MethodName := ⟨RX8, "commandOf", "(J)I"⟩
abbrev cX8_numbersOf : ByteArray := prog_10_method_67_code
def yX8_numbersOf : MethodName := ⟨RX8, "numbersOf", "(I)I"⟩
abbrev cX8_number : ByteArray := prog_10_method_68_code
def yX8_number : MethodName := ⟨RX8, "number", "(I)Z"⟩
abbrev cX8_reads : ByteArray := prog_10_method_69_code
def yX8_reads : MethodName := ⟨RX8, "reads", "()Z"⟩
abbrev cX8_fault : ByteArray := prog_10_method_70_code
def yX8_fault : MethodName := ⟨RX8, "fault", "()I"⟩
abbrev cX8_does : ByteArray := prog_10_method_71_code
def yX8_does : MethodName := ⟨RX8, "does", "()I"⟩
abbrev cX8_runCommands : ByteArray := prog_10_method_72_code
def yX8_runCommands : MethodName := ⟨RX8, "runCommands", "()I"⟩
abbrev cX8_undo : ByteArray := prog_10_method_73_code
def yX8_undo : MethodName := ⟨RX8, "undo", "()I"⟩
abbrev cX8_digest : ByteArray := prog_10_method_74_code
def yX8_digest : MethodName := ⟨RX8, "digest", "()J"⟩
def RJx29ce0 : String := "java/lang/Enum"
def TJx29ce0 : u_T := fun k => match k with
  | _ => ("", "", "", false)
def tyJx29ce0 : Nat → FieldType := fun k => match k with
  | _ => .int
abbrev wsJx29ce00 : List Cond := u_ws RJx29ce0 TJx29ce0 0
theorem nmJx29ce0 : ∀ a, a < 0 → ∀ b, b < 0 → a ≠ b → (TJx29ce0 a).2.1 ≠ (TJx29ce0 b).2.1 := by decide +kernel
theorem tyJx29ce0_ok : ∀ k, k < 0 → parseFieldDescriptor (TJx29ce0 k).2.2.1 = some (tyJx29ce0 k) := by decide +kernel
abbrev cJx29ce0_ordinal_8abf5 : ByteArray := prog_11_method_2_code
def yJx29ce0_ordinal_8abf5 : MethodName := ⟨RJx29ce0, "ordinal", "()I"⟩
def RJ6 : String := "java/lang/Integer"
def TJ6 : u_T := fun k => match k with
  | _ => ("", "", "", false)
def tyJ6 : Nat → FieldType := fun k => match k with
  | _ => .int
abbrev wsJ60 : List Cond := u_ws RJ6 TJ6 0
theorem nmJ6 : ∀ a, a < 0 → ∀ b, b < 0 → a ≠ b → (TJ6 a).2.1 ≠ (TJ6 b).2.1 := by decide +kernel
theorem tyJ6_ok : ∀ k, k < 0 → parseFieldDescriptor (TJ6 k).2.2.1 = some (tyJ6 k) := by decide +kernel
abbrev cJ6_bitCount_0f7a4 : ByteArray := prog_16_method_49_code
def yJ6_bitCount_0f7a4 : MethodName := ⟨RJ6, "bitCount", "(I)I"⟩
def RJ9 : String := "java/lang/Math"
def TJ9 : u_T := fun k => match k with
  | _ => ("", "", "", false)
def tyJ9 : Nat → FieldType := fun k => match k with
  | _ => .int
abbrev wsJ90 : List Cond := u_ws RJ9 TJ9 0
theorem nmJ9 : ∀ a, a < 0 → ∀ b, b < 0 → a ≠ b → (TJ9 a).2.1 ≠ (TJ9 b).2.1 := by decide +kernel
theorem tyJ9_ok : ∀ k, k < 0 → parseFieldDescriptor (TJ9 k).2.2.1 = some (tyJ9 k) := by decide +kernel
abbrev cJ9_min_7cf53 : ByteArray := prog_17_method_69_code
def yJ9_min_7cf53 : MethodName := ⟨RJ9, "min", "(II)I"⟩
def RJ0 : String := "java/lang/String"
def TJ0 : u_T := fun k => match k with
  | _ => ("", "", "", false)
def tyJ0 : Nat → FieldType := fun k => match k with
  | _ => .int
abbrev wsJ00 : List Cond := u_ws RJ0 TJ0 0
theorem nmJ0 : ∀ a, a < 0 → ∀ b, b < 0 → a ≠ b → (TJ0 a).2.1 ≠ (TJ0 b).2.1 := by decide +kernel
theorem tyJ0_ok : ∀ k, k < 0 → parseFieldDescriptor (TJ0 k).2.2.1 = some (tyJ0 k) := by decide +kernel
abbrev cJ0_length_8abf5 : ByteArray := prog_19_method_54_code
def yJ0_length_8abf5 : MethodName := ⟨RJ0, "length", "()I"⟩
abbrev cJ0_charAt_5068e : ByteArray := prog_19_method_56_code
def yJ0_charAt_5068e : MethodName := ⟨RJ0, "charAt", "(I)C"⟩
abbrev cJ0_coder_7d493 : ByteArray := prog_19_method_152_code
def yJ0_coder_7d493 : MethodName := ⟨RJ0, "coder", "()B"⟩
abbrev cJ0_isLatin1_aae02 : ByteArray := prog_19_method_154_code
def yJ0_isLatin1_aae02 : MethodName := ⟨RJ0, "isLatin1", "()Z"⟩
abbrev cJ0_checkIndex_df160 : ByteArray := prog_19_method_155_code
def yJ0_checkIndex_df160 : MethodName := ⟨RJ0, "checkIndex", "(II)V"⟩
def RJ1 : String := "java/lang/StringLatin1"
def TJ1 : u_T := fun k => match k with
  | _ => ("", "", "", false)
def tyJ1 : Nat → FieldType := fun k => match k with
  | _ => .int
abbrev wsJ10 : List Cond := u_ws RJ1 TJ1 0
theorem nmJ1 : ∀ a, a < 0 → ∀ b, b < 0 → a ≠ b → (TJ1 a).2.1 ≠ (TJ1 b).2.1 := by decide +kernel
theorem tyJ1_ok : ∀ k, k < 0 → parseFieldDescriptor (TJ1 k).2.2.1 = some (tyJ1 k) := by decide +kernel
abbrev cJ1_charAt_3b067 : ByteArray := prog_20_method_2_code
def yJ1_charAt_3b067 : MethodName := ⟨RJ1, "charAt", "([BI)C"⟩
def RJ2 : String := "java/lang/StringUTF16"
def TJ2 : u_T := fun k => match k with
  | _ => ("", "", "", false)
def tyJ2 : Nat → FieldType := fun k => match k with
  | _ => .int
abbrev wsJ20 : List Cond := u_ws RJ2 TJ2 0
theorem nmJ2 : ∀ a, a < 0 → ∀ b, b < 0 → a ≠ b → (TJ2 a).2.1 ≠ (TJ2 b).2.1 := by decide +kernel
theorem tyJ2_ok : ∀ k, k < 0 → parseFieldDescriptor (TJ2 k).2.2.1 = some (tyJ2 k) := by decide +kernel
abbrev cJ2_getChar_3b067 : ByteArray := prog_21_method_5_code
def yJ2_getChar_3b067 : MethodName := ⟨RJ2, "getChar", "([BI)C"⟩
abbrev cJ2_length_9d52b : ByteArray := prog_21_method_6_code
def yJ2_length_9d52b : MethodName := ⟨RJ2, "length", "([B)I"⟩
abbrev cJ2_charAt_3b067 : ByteArray := prog_21_method_83_code
def yJ2_charAt_3b067 : MethodName := ⟨RJ2, "charAt", "([BI)C"⟩
abbrev cJ2_checkIndex_2214a : ByteArray := prog_21_method_91_code
def yJ2_checkIndex_2214a : MethodName := ⟨RJ2, "checkIndex", "(I[B)V"⟩
def RJ10 : String := "java/lang/System"
def TJ10 : u_T := fun k => match k with
  | _ => ("", "", "", false)
def tyJ10 : Nat → FieldType := fun k => match k with
  | _ => .int
abbrev wsJ100 : List Cond := u_ws RJ10 TJ10 0
theorem nmJ10 : ∀ a, a < 0 → ∀ b, b < 0 → a ≠ b → (TJ10 a).2.1 ≠ (TJ10 b).2.1 := by decide +kernel
theorem tyJ10_ok : ∀ k, k < 0 → parseFieldDescriptor (TJ10 k).2.2.1 = some (tyJ10 k) := by decide +kernel
def RJ3 : String := "jdk/internal/util/Preconditions"
def TJ3 : u_T := fun k => match k with
  | _ => ("", "", "", false)
def tyJ3 : Nat → FieldType := fun k => match k with
  | _ => .int
abbrev wsJ30 : List Cond := u_ws RJ3 TJ3 0
theorem nmJ3 : ∀ a, a < 0 → ∀ b, b < 0 → a ≠ b → (TJ3 a).2.1 ≠ (TJ3 b).2.1 := by decide +kernel
theorem tyJ3_ok : ∀ k, k < 0 → parseFieldDescriptor (TJ3 k).2.2.1 = some (tyJ3 k) := by decide +kernel
abbrev cJ3_checkIndex_8e157 : ByteArray := prog_24_method_11_code
def yJ3_checkIndex_8e157 : MethodName := ⟨RJ3, "checkIndex", "(IILjava/util/function/BiFunction;)I"⟩
def RL : String := "WornDotsLaw"
abbrev cL_begin : ByteArray := method_3_code
def yL_begin : MethodName := ⟨RL, "begin", "(LWornDots;I[J)I"⟩
abbrev cL_set : ByteArray := method_4_code
def yL_set : MethodName := ⟨RL, "set", "(LWornDots;II[J)I"⟩
abbrev cL_addLabel : ByteArray := method_5_code
def yL_addLabel : MethodName := ⟨RL, "addLabel", "(LWornDots;II[J)I"⟩
abbrev cL_setRow : ByteArray := method_6_code
def yL_setRow : MethodName := ⟨RL, "setRow", "(LWornDots;III[J)I"⟩
abbrev cL_replace : ByteArray := method_7_code
def yL_replace : MethodName := ⟨RL, "replace", "(LWornDots;I[J)I"⟩
abbrev cL_cool : ByteArray := method_8_code
def yL_cool : MethodName := ⟨RL, "cool", "(LWornDots;I[J)I"⟩
abbrev cL_addCustomer : ByteArray := method_9_code
def yL_addCustomer : MethodName := ⟨RL, "addCustomer", "(LWornDots;[J)I"⟩
abbrev cL_rent : ByteArray := method_10_code
def yL_rent : MethodName := ⟨RL, "rent", "(LWornDots;III[J)I"⟩
abbrev cL_endRent : ByteArray := method_11_code
def yL_endRent : MethodName := ⟨RL, "endRent", "(LWornDots;I[J)I"⟩
abbrev cL_print : ByteArray := method_12_code
def yL_print : MethodName := ⟨RL, "print", "(LWornDots;III[J)I"⟩
abbrev cL_printBest : ByteArray := method_13_code
def yL_printBest : MethodName := ⟨RL, "printBest", "(LWornDots;II[J)I"⟩
abbrev cL_dot : ByteArray := method_14_code
def yL_dot : MethodName := ⟨RL, "dot", "(LWornDots;II[J)I"⟩
abbrev cL_label : ByteArray := method_15_code
def yL_label : MethodName := ⟨RL, "label", "(LWornDots;II[J)I"⟩
abbrev cL_row : ByteArray := method_16_code
def yL_row : MethodName := ⟨RL, "row", "(LWornDots;II[J)I"⟩
abbrev cL_customer : ByteArray := method_17_code
def yL_customer : MethodName := ⟨RL, "customer", "(LWornDots;II[J)I"⟩
abbrev cL_whole : ByteArray := method_18_code
def yL_whole : MethodName := ⟨RL, "whole", "(LWornDots;I[J)I"⟩
abbrev cL_reason : ByteArray := method_19_code
def yL_reason : MethodName := ⟨RL, "reason", "(LWornDots;III[J)I"⟩
abbrev cL_price : ByteArray := method_20_code
def yL_price : MethodName := ⟨RL, "price", "(LWornDots;III[J)I"⟩
abbrev cL_unreadable : ByteArray := method_21_code
def yL_unreadable : MethodName := ⟨RL, "unreadable", "(LWornDots;III[J)I"⟩
abbrev cL_bestOffset : ByteArray := method_22_code
def yL_bestOffset : MethodName := ⟨RL, "bestOffset", "(LWornDots;II[J)I"⟩
abbrev cL_readableFor : ByteArray := method_23_code
def yL_readableFor : MethodName := ⟨RL, "readableFor", "(LWornDots;III[J)I"⟩
abbrev cL_type : ByteArray := method_24_code
def yL_type : MethodName := ⟨RL, "type", "(LWornDots;I[J)I"⟩
abbrev cL_undo : ByteArray := method_25_code
def yL_undo : MethodName := ⟨RL, "undo", "(LWornDots;[J)I"⟩
abbrev cL_law : ByteArray := code
def yL_law : MethodName := ⟨RL, "law", "([I)Z"⟩
abbrev vwCl : List vw_C := [(RX1, TX1, 6), (RX2, TX2, 6), (RX3, TX3, 5), (RX4, TX4, 5), (RX5, TX5, 8), (RX7, TX7, 4), (RX8, TX8, 11)]
end
section
/-! CORE: one memory for all objects of the system (ints, references, longs by the object's number and the place in it), one world made of it, one judgement G over it -/
section CoreA
abbrev Mm : Type := (Nat → Nat → Int32) × (Nat → Nat → Option Nat) × (Nat → Nat → Int64)
def up2 {α : Type} (f : Nat → Nat → α) (k j : Nat) (v : α) : Nat → Nat → α := fun a b => if a = k then (if b = j then v else f a b) else f a b
def upR {α : Type} (f : Nat → Nat → α) (k : Nat) (g : Nat → α) : Nat → Nat → α := fun a b => if a = k then g b else f a b
def sI (μ : Mm) (k j : Nat) (v : Int32) : Mm := (up2 μ.1 k j v, μ.2)
def sR (μ : Mm) (k j : Nat) (v : Option Nat) : Mm := (μ.1, up2 μ.2.1 k j v, μ.2.2)
def sJ (μ : Mm) (k j : Nat) (v : Int64) : Mm := (μ.1, μ.2.1, up2 μ.2.2 k j v)
def sIr (μ : Mm) (k : Nat) (g : Nat → Int32) : Mm := (upR μ.1 k g, μ.2)
theorem up2_row {α : Type} (f : Nat → Nat → α) {k j a : Nat} {v : α} (h : a ≠ k) : up2 f k j v a = f a := by funext b; simp [up2, h]
theorem up2_self {α : Type} (f : Nat → Nat → α) {k j : Nat} {v : α} : up2 f k j v k = fun b => if b = j then v else f k b := by funext b; simp [up2]
theorem upR_row {α : Type} (f : Nat → Nat → α) {k a : Nat} {g : Nat → α} (h : a ≠ k) : upR f k g a = f a := by funext b; simp [upR, h]
theorem upR_self {α : Type} (f : Nat → Nat → α) {k : Nat} {g : Nat → α} : upR f k g k = g := by funext b; simp [upR]
abbrev inb (i : Int32) (n : Nat) : Prop := ¬ (i < 0 ∨ n ≤ i.toNatClampNeg)
abbrev ix (i : Int32) : Nat := i.toNatClampNeg
/-- what a copy wants -/
abbrev okc (sp dp n : Int32) (a b : Nat) : Prop := ¬ sp < 0 ∧ ¬ dp < 0 ∧ ¬ n < 0 ∧ ix sp + ix n ≤ a ∧ ix dp + ix n ≤ b
/-- the pieces of the functions that the methods are: a test, a named value, a reference of a kind -/
def gd {α : Type} (c : Prop) [Decidable c] (k : Option α) : Option α := if c then k else none
def lt1 {α β : Type} (v : α) (k : α → Option β) : Option β := k v
def bd {α β : Type} (v : Option α) (k : α → Option β) : Option β := v.bind k
def rf (K : Nat → Nat × Nat) (μ : Mm) (k j c : Nat) : Option Nat := match μ.2.1 k j with
  | some h => if (K h).1 = c then some h else none
  | none => none
theorem gd_inv {α : Type} {c : Prop} [Decidable c] {k : Option α} {r : α} (h : gd c k = some r) : c ∧ k = some r := by
  unfold gd at h
  split at h
  · exact ⟨by assumption, h⟩
  · cases h
theorem lt_inv {α β : Type} {v : α} {k : α → Option β} {r : β} (h : lt1 v k = some r) : ∃ x, x = v ∧ k x = some r := ⟨v, rfl, h⟩
theorem bd_inv {α β : Type} {v : Option α} {k : α → Option β} {r : β} (h : bd v k = some r) : ∃ x, v = some x ∧ k x = some r := by
  cases v with
  | none => cases h
  | some x => exact ⟨x, rfl, h⟩
theorem rf_inv {K : Nat → Nat × Nat} {μ : Mm} {k j c h : Nat} (e : rf K μ k j c = some h) : μ.2.1 k j = some h ∧ (K h).1 = c := by
  unfold rf at e
  split at e
  · rename_i h' e'
    split at e
    · cases e; exact ⟨e', by assumption⟩
    · cases e
  · cases e
theorem ite_t {α : Sort _} {c : Prop} [Decidable c] {a b r : α} (h : (if c then a else b) = r) (hc : c) : a = r := by rw [if_pos hc] at h; exact h
theorem ite_f {α : Sort _} {c : Prop} [Decidable c] {a b r : α} (h : (if c then a else b) = r) (hc : ¬ c) : b = r := by rw [if_neg hc] at h; exact h
end CoreA
section CoreB
/-- the world's numbers: where it begins, the address of each object, the classes' numbers and slots, the arrays' classes, what holds of the statics, the kind and length of each object, how many there are -/
abbrev ZZ : Type := Nat × (Nat → Nat) × (Nat → ClassId) × (Nat → Nat → Nat) × (Nat → ClassId) × (State → Heap → Prop) × (Nat → Nat × Nat) × Nat
def zb (Z : ZZ) : Nat := Z.1
def za (Z : ZZ) : Nat → Nat := Z.2.1
def zD (Z : ZZ) : va_G := (Z.2.2.1, Z.2.2.2.1)
def zc (Z : ZZ) : Nat → ClassId := Z.2.2.2.2.1
def zs (Z : ZZ) : State → Heap → Prop := Z.2.2.2.2.2.1
def zk (Z : ZZ) : Nat → Nat × Nat := Z.2.2.2.2.2.2.1
def zn (Z : ZZ) : Nat := Z.2.2.2.2.2.2.2
def zT (Z : ZZ) : List (ClassId × FieldType) := [(zc Z 0, .char), (zc Z 1, .int), (zc Z 2, .object "WornDots$Customer"), (zc Z 3, .object "WornDots$Label"), (zc Z 4, .object "WornDots$State"), (zc Z 5, .long)]
def iv (μ : Mm) (k j : Nat) : Value := .int (μ.1 k j)
def rv (Z : ZZ) (μ : Mm) (k j : Nat) : Value := va_rf ((μ.2.1 k j).map (za Z))
def flds (Z : ZZ) (c k : Nat) (μ : Mm) : List Value := match c with
  | 0 => [rv Z μ k 0, iv μ k 1, iv μ k 2, iv μ k 3, rv Z μ k 4, rv Z μ k 5]
  | 1 => [iv μ k 0, iv μ k 1, iv μ k 2, iv μ k 3, iv μ k 4, iv μ k 5]
  | 2 => [iv μ k 0, iv μ k 1, rv Z μ k 2, rv Z μ k 3, rv Z μ k 4]
  | 3 => [iv μ k 0, iv μ k 1, iv μ k 2, iv μ k 3, rv Z μ k 4]
  | 4 => [rv Z μ k 0, rv Z μ k 1, rv Z μ k 2, rv Z μ k 3, iv μ k 4, rv Z μ k 5, iv μ k 6, iv μ k 7]
  | 5 => [rv Z μ k 0, rv Z μ k 1, iv μ k 2, rv Z μ k 3]
  | 6 => [rv Z μ k 0, rv Z μ k 1, rv Z μ k 2, iv μ k 3, iv μ k 4, rv Z μ k 5, iv μ k 6, iv μ k 7, iv μ k 8, iv μ k 9, rv Z μ k 10]
  | _ => []
def ce (Z : ZZ) (μ : Mm) (k : Nat) : va_E :=
  if (zk Z k).1 < 7 then .inr ((zk Z k).1, flds Z (zk Z k).1 k μ)
  else if (zk Z k).1 < 9 then .inl (zc Z ((zk Z k).1 - 7), (zk Z k).2, .inl (μ.1 k))
  else if (zk Z k).1 < 12 then .inl (zc Z ((zk Z k).1 - 7), (zk Z k).2, .inr (.inr (.inr (.inr (fun j => (μ.2.1 k j).map (za Z))))))
  else .inl (zc Z 5, (zk Z k).2, .inr (.inl (μ.2.2 k)))
def wl (Z : ZZ) (μ : Mm) : va_W := (List.range (zn Z)).map (fun k => (za Z k, ce Z μ k))
def AA (Z : ZZ) : Nat → Prop := fun q => zb Z ≤ q
def OkZ (Z : ZZ) : Prop := zn Z ≤ 1000 ∧ (∀ i, i < 1000 → za Z i = zb Z + i) ∧ (∀ i, ¬ i < zn Z → (zk Z i).1 = 99) ∧
  (∀ (u U : State) (H : Heap), u.vm.Alike U.vm → zs Z u H → zs Z U H) ∧ (∀ (U : State) (H H1 : Heap), (∀ a : Nat, a < H.size → ¬ AA Z a → H1[a]? = H[a]?) → zs Z U H → zs Z U H1)
def Wd (Z : ZZ) (μ : Mm) (U : State) (H : Heap) : Prop := va_P (zD Z) vwCl (wl Z μ) H ∧ zs Z U H
def KK (Z : ZZ) (U : State) : Prop := va_K (zD Z) vwCl (zT Z) U
theorem wl_get {Z : ZZ} {μ : Mm} {k : Nat} (h : k < zn Z) : (wl Z μ)[k]? = some (za Z k, ce Z μ k) := by
  unfold wl
  rw [List.getElem?_map, List.getElem?_range h]
  rfl
theorem wl_len {Z : ZZ} {μ : Mm} : (wl Z μ).length = zn Z := by simp [wl]
theorem wl_inv {Z : ZZ} {μ : Mm} {k : Nat} {q : Nat × va_E} (h : (wl Z μ)[k]? = some q) : k < zn Z ∧ q = (za Z k, ce Z μ k) := by
  have hl := (List.getElem?_eq_some_iff.mp h).1
  rw [wl_len] at hl
  rw [wl_get hl] at h
  exact ⟨hl, (Option.some.inj h).symm⟩
theorem wl_D {Z : ZZ} (hZ : OkZ Z) (μ : Mm) : va_D (AA Z) (wl Z μ) := by
  obtain ⟨h1, h2, -⟩ := hZ
  refine ⟨fun i j p q hp hq e => ?_, fun k q hq => ?_⟩
  · obtain ⟨hi, rfl⟩ := wl_inv hp
    obtain ⟨hj, rfl⟩ := wl_inv hq
    have e : za Z i = za Z j := e
    rw [h2 i (by omega), h2 j (by omega)] at e
    omega
  · obtain ⟨hi, rfl⟩ := wl_inv hq
    show zb Z ≤ za Z k
    rw [h2 k (by omega)]
    omega
theorem wl_set {Z : ZZ} {μ μ' : Mm} {k : Nat} {e : va_E} (h : k < zn Z) (he : e = ce Z μ' k) (ho : ∀ j, j ≠ k → ce Z μ' j = ce Z μ j) : (wl Z μ).set k (za Z k, e) = wl Z μ' := by
  subst he
  apply List.ext_getElem?
  intro i
  by_cases hi : i = k
  · subst hi
    rw [wl_get h, List.getElem?_set_self (by rw [wl_len]; exact h)]
  · rw [List.getElem?_set_ne (Ne.symm hi)]
    by_cases hl : i < zn Z
    · rw [wl_get hl, wl_get hl, ho i hi]
    · rw [List.getElem?_eq_none (by rw [wl_len]; omega), List.getElem?_eq_none (by rw [wl_len]; omega)]
theorem zk_lt {Z : ZZ} (hZ : OkZ Z) {k c : Nat} (h : (zk Z k).1 = c) (hc : c < 99) : k < zn Z := by
  rcases Nat.lt_or_ge k (zn Z) with q | q
  · exact q
  · have := hZ.2.2.1 k (by omega)
    omega
theorem ce_obj {Z : ZZ} {μ : Mm} {k c : Nat} (h : (zk Z k).1 = c) (hc : c < 7) : ce Z μ k = .inr (c, flds Z c k μ) := by
  unfold ce
  rw [h, if_pos hc]
theorem ce_int {Z : ZZ} {μ : Mm} {k : Nat} (h : (zk Z k).1 = 8) : ce Z μ k = .inl (zc Z 1, (zk Z k).2, .inl (μ.1 k)) := by
  unfold ce
  rw [h]
  rfl
theorem ce_chr {Z : ZZ} {μ : Mm} {k : Nat} (h : (zk Z k).1 = 7) : ce Z μ k = .inl (zc Z 0, (zk Z k).2, .inl (μ.1 k)) := by
  unfold ce
  rw [h]
  rfl
theorem ce_lng {Z : ZZ} {μ : Mm} {k : Nat} (h : (zk Z k).1 = 12) : ce Z μ k = .inl (zc Z 5, (zk Z k).2, .inr (.inl (μ.2.2 k))) := by
  unfold ce
  rw [h]
  rfl
theorem ce_ref {Z : ZZ} {μ : Mm} {k c : Nat} (h : (zk Z k).1 = c) (h1 : ¬ c < 9) (h2 : c < 12) : ce Z μ k = .inl (zc Z (c - 7), (zk Z k).2, .inr (.inr (.inr (.inr (fun j => (μ.2.1 k j).map (za Z)))))) := by
  unfold ce
  rw [h, if_neg (by omega), if_neg h1, if_pos h2]
theorem ce_cong {Z : ZZ} {μ μ' : Mm} {k : Nat} (h1 : μ'.1 k = μ.1 k) (h2 : μ'.2.1 k = μ.2.1 k) (h3 : μ'.2.2 k = μ.2.2 k) : ce Z μ' k = ce Z μ k := by
  unfold ce flds
  simp only [h1, h2, h3, iv, rv]
theorem ce_sI {Z : ZZ} {μ : Mm} {k j a : Nat} {v : Int32} (h : a ≠ k) : ce Z (sI μ k j v) a = ce Z μ a := ce_cong (up2_row _ h) rfl rfl
theorem ce_sR {Z : ZZ} {μ : Mm} {k j a : Nat} {v : Option Nat} (h : a ≠ k) : ce Z (sR μ k j v) a = ce Z μ a := ce_cong rfl (up2_row _ h) rfl
theorem ce_sJ {Z : ZZ} {μ : Mm} {k j a : Nat} {v : Int64} (h : a ≠ k) : ce Z (sJ μ k j v) a = ce Z μ a := ce_cong rfl rfl (up2_row _ h)
theorem ce_sIr {Z : ZZ} {μ : Mm} {k a : Nat} {g : Nat → Int32} (h : a ≠ k) : ce Z (sIr μ k g) a = ce Z μ a := ce_cong (upR_row _ h) rfl rfl
/-- a kind's class: its name, fields, how many -/
def kN (c : Nat) : Nat := match c with | 0 => 6 | 1 => 6 | 2 => 5 | 3 => 5 | 4 => 8 | 5 => 4 | 6 => 11 | _ => 0
def isI (c j : Nat) : Bool := match c with
  | 0 => j == 1 || j == 2 || j == 3
  | 1 => decide (j < 6)
  | 2 => decide (j < 2)
  | 3 => decide (j < 4)
  | 4 => j == 4 || j == 6 || j == 7
  | 5 => j == 2
  | 6 => j == 3 || j == 4 || (decide (6 ≤ j) && decide (j < 10))
  | _ => false
theorem fl_len {Z : ZZ} {μ : Mm} {k : Nat} : ∀ c, c < 7 → (flds Z c k μ).length = kN c
  | 0, _ => rfl | 1, _ => rfl | 2, _ => rfl | 3, _ => rfl | 4, _ => rfl | 5, _ => rfl | 6, _ => rfl
  | n + 7, h => absurd h (by omega)
end CoreB
section CoreW
/-- the tables' words that every call can hand on -/
def TB : List Cond := lw_tbl.filter goodWord
theorem TB_good {w : Cond} (h : w ∈ TB) : goodWord w = true := (List.mem_filter.mp h).2
theorem TB_in {w : Cond} (h : w ∈ TB) : w ∈ lw_tbl := (List.mem_filter.mp h).1
theorem TB_of {w : Cond} (h : w ∈ tables_1) (g : goodWord w = true) : w ∈ TB := List.mem_filter.mpr ⟨List.mem_append_right _ h, g⟩
theorem tb1 {w : Cond} (h : w ∈ tables_1_1) (g : goodWord w = true) : w ∈ TB := TB_of (List.mem_append_left _ h) g
theorem tb2 {w : Cond} (h : w ∈ tables_1_2) (g : goodWord w = true) : w ∈ TB := TB_of (List.mem_append_right _ (List.mem_append_left _ h)) g
theorem tb3 {w : Cond} (h : w ∈ tables_1_3) (g : goodWord w = true) : w ∈ TB := TB_of (List.mem_append_right _ (List.mem_append_right _ (List.mem_append_left _ h))) g
theorem tb4 {w : Cond} (h : w ∈ tables_1_4) (g : goodWord w = true) : w ∈ TB := TB_of (List.mem_append_right _ (List.mem_append_right _ (List.mem_append_right _ (List.mem_append_left _ h)))) g
theorem tb5 {w : Cond} (h : w ∈ tables_1_5) (g : goodWord w = true) : w ∈ TB := TB_of (List.mem_append_right _ (List.mem_append_right _ (List.mem_append_right _ (List.mem_append_right _ (List.mem_append_left _ h))))) g
theorem tb6 {w : Cond} (h : w ∈ tables_1_6) (g : goodWord w = true) : w ∈ TB := TB_of (List.mem_append_right _ (List.mem_append_right _ (List.mem_append_right _ (List.mem_append_right _ (List.mem_append_right _ h))))) g
theorem tbs {q : MethodName × Nat} (h : q ∈ lw_privs) : Cond.selects q.1.cls q.1 q.1 ∈ TB := List.mem_filter.mpr ⟨List.mem_append_left _ (List.mem_map.mpr ⟨q, h, rfl⟩), rfl⟩
theorem tbs1 {q : MethodName × Nat} (h : q ∈ lw_privs_1) : Cond.selects q.1.cls q.1 q.1 ∈ TB := tbs (List.mem_append_left _ h)
theorem tbs2 {q : MethodName × Nat} (h : q ∈ lw_privs_2) : Cond.selects q.1.cls q.1 q.1 ∈ TB := tbs (List.mem_append_right _ (List.mem_append_left _ h))
theorem tbs3 {q : MethodName × Nat} (h : q ∈ lw_privs_3) : Cond.selects q.1.cls q.1 q.1 ∈ TB := tbs (List.mem_append_right _ (List.mem_append_right _ (List.mem_append_left _ h)))
theorem tbs4 {q : MethodName × Nat} (h : q ∈ lw_privs_4) : Cond.selects q.1.cls q.1 q.1 ∈ TB := tbs (List.mem_append_right _ (List.mem_append_right _ (List.mem_append_right _ h)))
theorem good_TB {w : Cond} (h : w ∈ TB) : w ∈ TB ∧ ((w.onTables && w.keeps) = true ∨ ∃ ty, w = .arrayClass ty) := ⟨h, good_of_word (TB_good h)⟩
theorem goodC {y : MethodName} {bytes : ByteArray} {maxL : Nat} {rt : Option FieldType} (m5 : Cond.code y bytes maxL rt ∈ TB) : GoodIn TB (Cond.code y bytes maxL rt :: TB) := fun w h => by
  rcases List.mem_cons.mp h with rfl | h
  · exact good_TB m5
  · exact good_TB h
theorem goodV {own CN : String} {index : Nat} {y : MethodName} {bytes : ByteArray} {maxL : Nat} {rt : Option FieldType} (m1 : Cond.methodLink own index y ∈ TB) (m2 : Cond.instanceMethod y ∈ TB) (m3 : Cond.selects CN y y ∈ TB) (m4 : Cond.initialized CN ∈ TB) (m5 : Cond.code y bytes maxL rt ∈ TB) : GoodIn TB (wsV own index CN y (Cond.code y bytes maxL rt :: TB)) := fun w h => by
  unfold wsV at h
  simp only [List.cons_append, List.nil_append, List.mem_cons] at h
  rcases h with rfl | rfl | rfl | rfl | rfl | h
  · exact good_TB m1
  · exact good_TB m2
  · exact good_TB m3
  · exact good_TB m4
  · exact good_TB m5
  · exact good_TB h
theorem goodS {own : String} {index : Nat} {y : MethodName} {bytes : ByteArray} {maxL : Nat} {rt : Option FieldType} (m1 : Cond.methodLink own index y ∈ TB) (m2 : Cond.static y ∈ TB) (m4 : Cond.initialized y.cls ∈ TB) (m5 : Cond.code y bytes maxL rt ∈ TB) : GoodIn TB (va_wsS own index y (Cond.code y bytes maxL rt :: TB)) := fun w h => by
  unfold va_wsS at h
  simp only [List.cons_append, List.nil_append, List.mem_cons] at h
  rcases h with rfl | rfl | rfl | rfl | h
  · exact good_TB m1
  · exact good_TB m2
  · exact good_TB m4
  · exact good_TB m5
  · exact good_TB h
/-- the links of nest mates -/
def NF : List (String × Nat × String × String × String × String) := [("WornDots", 141, "WornDots$CommandText", "length", "I", "WornDots"), ("WornDots", 195, "WornDots$CommandText", "word", "LWornDots$Word;", "WornDots"), ("WornDots", 199, "WornDots$CommandText", "numbers", "[I", "WornDots"), ("WornDots$State", 68, "WornDots$Head", "dots", "I", "WornDots"), ("WornDots", 238, "WornDots$Head", "dots", "I", "WornDots"), ("WornDots$State", 194, "WornDots$Head", "burntInAll", "I", "WornDots"), ("WornDots$State", 180, "WornDots$Head", "heat", "[I", "WornDots"), ("WornDots$State", 107, "WornDots$Head", "wear", "[I", "WornDots"), ("WornDots$State", 187, "WornDots$Head", "burnt", "[I", "WornDots"), ("WornDots$State", 37, "WornDots", "FIRST_SETTING", "[I", "WornDots"), ("WornDots$State", 88, "WornDots$Label", "width", "I", "WornDots"), ("WornDots$Head", 38, "WornDots$Label", "width", "I", "WornDots"), ("WornDots$State", 91, "WornDots$Label", "blackness", "I", "WornDots"), ("WornDots$Head", 50, "WornDots$Label", "blackness", "I", "WornDots"), ("WornDots$State", 162, "WornDots$Label", "printed", "I", "WornDots"), ("WornDots$State", 169, "WornDots$Label", "failed", "I", "WornDots"), ("WornDots$Head", 43, "WornDots$Label", "rows", "[I", "WornDots"), ("WornDots$State", 101, "WornDots$Label", "rows", "[I", "WornDots"), ("WornDots", 127, "WornDots$Label", "rows", "[I", "WornDots"), ("WornDots$State", 126, "WornDots$Customer", "first", "I", "WornDots"), ("WornDots$State", 129, "WornDots$Customer", "last", "I", "WornDots"), ("WornDots$State", 156, "WornDots$Customer", "paid", "I", "WornDots"), ("WornDots$State", 163, "WornDots$Customer", "paidBack", "I", "WornDots"), ("WornDots$State", 159, "WornDots$Customer", "printed", "I", "WornDots"), ("WornDots$State", 166, "WornDots$Customer", "failed", "I", "WornDots"), ("WornDots", 169, "WornDots$State", "head", "LWornDots$Head;", "WornDots"), ("WornDots", 118, "WornDots$State", "labels", "[LWornDots$Label;", "WornDots"), ("WornDots", 241, "WornDots$State", "labelCount", "I", "WornDots"), ("WornDots", 134, "WornDots$State", "customers", "[LWornDots$Customer;", "WornDots"), ("WornDots", 244, "WornDots$State", "customerCount", "I", "WornDots"), ("WornDots$CommandText", 64, "WornDots", "WORDS", "[LWornDots$Word;", "WornDots"), ("WornDots$State", 82, "WornDots", "LOWEST_SETTING", "[I", "WornDots"), ("WornDots$State", 85, "WornDots", "HIGHEST_SETTING", "[I", "WornDots"), ("WornDots$CommandText", 68, "WornDots$Word", "letters", "Ljava/lang/String;", "WornDots"), ("WornDots$CommandText", 55, "WornDots$Word", "numbers", "I", "WornDots")]
def NM : List (String × Nat × MethodName × String) := [("WornDots", 9, ⟨"WornDots$CommandText", "<init>", "()V"⟩, "WornDots"), ("WornDots", 24, ⟨"WornDots$Head", "<init>", "()V"⟩, "WornDots"), ("WornDots$State", 11, ⟨"WornDots$Head", "<init>", "()V"⟩, "WornDots"), ("WornDots$State", 46, ⟨"WornDots$Label", "<init>", "()V"⟩, "WornDots"), ("WornDots$State", 47, ⟨"WornDots$Customer", "<init>", "()V"⟩, "WornDots")]
def NW (U : State) : Prop := (∀ q ∈ NF, va_Nw (.fieldLinkNest q.1 q.2.1 q.2.2.1 q.2.2.2.1 q.2.2.2.2.1 q.2.2.2.2.2) U) ∧ ∀ q ∈ NM, va_Nw (.methodLinkNest q.1 q.2.1 q.2.2.1 q.2.2.2) U
theorem NW.warm {s U : State} (hW : s.WarmedH U.vm) (h : NW s) : NW U := ⟨fun q hq => va_Nw.warmF hW (h.1 q hq), fun q hq => va_Nw.warmM hW (h.2 q hq)⟩
theorem NW.same {u U : State} (hv : u.vm = U.vm) (h : NW u) : NW U := ⟨fun q hq => va_Nw.same rfl hv (h.1 q hq), fun q hq => va_Nw.same rfl hv (h.2 q hq)⟩
end CoreW
end
section
/-! CORE, second: the fields one by one; the context of a method; the judgement G; a row for each instruction -/
set_option maxRecDepth 100000 in
theorem inTX1 : ∀ w ∈ u_ws RX1 TX1 6, w ∈ TB := by
  intro w h
  obtain ⟨k, hk, rfl⟩ := List.mem_map.mp h
  have hk := List.mem_range.mp hk
  match k, hk with
  | 0, _ => exact tb1 (List.mem_of_getElem? (i := 49) rfl) rfl
  | 1, _ => exact tb1 (List.mem_of_getElem? (i := 51) rfl) rfl
  | 2, _ => exact tb1 (List.mem_of_getElem? (i := 53) rfl) rfl
  | 3, _ => exact tb1 (List.mem_of_getElem? (i := 55) rfl) rfl
  | 4, _ => exact tb1 (List.mem_of_getElem? (i := 57) rfl) rfl
  | 5, _ => exact tb1 (List.mem_of_getElem? (i := 59) rfl) rfl
  | q + 6, hq => exact absurd hq (by omega)
set_option maxRecDepth 100000 in
theorem inTX2 : ∀ w ∈ u_ws RX2 TX2 6, w ∈ TB := by
  intro w h
  obtain ⟨k, hk, rfl⟩ := List.mem_map.mp h
  have hk := List.mem_range.mp hk
  match k, hk with
  | 0, _ => exact tb1 (List.mem_of_getElem? (i := 157) rfl) rfl
  | 1, _ => exact tb1 (List.mem_of_getElem? (i := 159) rfl) rfl
  | 2, _ => exact tb1 (List.mem_of_getElem? (i := 161) rfl) rfl
  | 3, _ => exact tb1 (List.mem_of_getElem? (i := 163) rfl) rfl
  | 4, _ => exact tb1 (List.mem_of_getElem? (i := 165) rfl) rfl
  | 5, _ => exact tb1 (List.mem_of_getElem? (i := 167) rfl) rfl
  | q + 6, hq => exact absurd hq (by omega)
set_option maxRecDepth 100000 in
theorem inTX3 : ∀ w ∈ u_ws RX3 TX3 5, w ∈ TB := by
  intro w h
  obtain ⟨k, hk, rfl⟩ := List.mem_map.mp h
  have hk := List.mem_range.mp hk
  match k, hk with
  | 0, _ => exact tb1 (List.mem_of_getElem? (i := 83) rfl) rfl
  | 1, _ => exact tb1 (List.mem_of_getElem? (i := 85) rfl) rfl
  | 2, _ => exact tb1 (List.mem_of_getElem? (i := 87) rfl) rfl
  | 3, _ => exact tb1 (List.mem_of_getElem? (i := 89) rfl) rfl
  | 4, _ => exact tb1 (List.mem_of_getElem? (i := 91) rfl) rfl
  | q + 5, hq => exact absurd hq (by omega)
set_option maxRecDepth 100000 in
theorem inTX4 : ∀ w ∈ u_ws RX4 TX4 5, w ∈ TB := by
  intro w h
  obtain ⟨k, hk, rfl⟩ := List.mem_map.mp h
  have hk := List.mem_range.mp hk
  match k, hk with
  | 0, _ => exact tb1 (List.mem_of_getElem? (i := 129) rfl) rfl
  | 1, _ => exact tb1 (List.mem_of_getElem? (i := 131) rfl) rfl
  | 2, _ => exact tb1 (List.mem_of_getElem? (i := 133) rfl) rfl
  | 3, _ => exact tb1 (List.mem_of_getElem? (i := 135) rfl) rfl
  | 4, _ => exact tb1 (List.mem_of_getElem? (i := 137) rfl) rfl
  | q + 5, hq => exact absurd hq (by omega)
set_option maxRecDepth 100000 in
theorem inTX5 : ∀ w ∈ u_ws RX5 TX5 8, w ∈ TB := by
  intro w h
  obtain ⟨k, hk, rfl⟩ := List.mem_map.mp h
  have hk := List.mem_range.mp hk
  match k, hk with
  | 0, _ => exact tb1 (List.mem_of_getElem? (i := 183) rfl) rfl
  | 1, _ => exact tb1 (List.mem_of_getElem? (i := 185) rfl) rfl
  | 2, _ => exact tb1 (List.mem_of_getElem? (i := 187) rfl) rfl
  | 3, _ => exact tb1 (List.mem_of_getElem? (i := 189) rfl) rfl
  | 4, _ => exact tb1 (List.mem_of_getElem? (i := 191) rfl) rfl
  | 5, _ => exact tb1 (List.mem_of_getElem? (i := 193) rfl) rfl
  | 6, _ => exact tb1 (List.mem_of_getElem? (i := 195) rfl) rfl
  | 7, _ => exact tb1 (List.mem_of_getElem? (i := 197) rfl) rfl
  | q + 8, hq => exact absurd hq (by omega)
set_option maxRecDepth 100000 in
theorem inTX7 : ∀ w ∈ u_ws RX7 TX7 4, w ∈ TB := by
  intro w h
  obtain ⟨k, hk, rfl⟩ := List.mem_map.mp h
  have hk := List.mem_range.mp hk
  match k, hk with
  | 0, _ => exact tb1 (List.mem_of_getElem? (i := 204) rfl) rfl
  | 1, _ => exact tb1 (List.mem_of_getElem? (i := 206) rfl) rfl
  | 2, _ => exact tb1 (List.mem_of_getElem? (i := 208) rfl) rfl
  | 3, _ => exact tb1 (List.mem_of_getElem? (i := 210) rfl) rfl
  | q + 4, hq => exact absurd hq (by omega)
set_option maxRecDepth 100000 in
theorem inTX8 : ∀ w ∈ u_ws RX8 TX8 11, w ∈ TB := by
  intro w h
  obtain ⟨k, hk, rfl⟩ := List.mem_map.mp h
  have hk := List.mem_range.mp hk
  match k, hk with
  | 0, _ => exact tb5 (List.mem_of_getElem? (i := 14) rfl) rfl
  | 1, _ => exact tb5 (List.mem_of_getElem? (i := 16) rfl) rfl
  | 2, _ => exact tb5 (List.mem_of_getElem? (i := 18) rfl) rfl
  | 3, _ => exact tb5 (List.mem_of_getElem? (i := 20) rfl) rfl
  | 4, _ => exact tb5 (List.mem_of_getElem? (i := 22) rfl) rfl
  | 5, _ => exact tb5 (List.mem_of_getElem? (i := 24) rfl) rfl
  | 6, _ => exact tb5 (List.mem_of_getElem? (i := 26) rfl) rfl
  | 7, _ => exact tb5 (List.mem_of_getElem? (i := 28) rfl) rfl
  | 8, _ => exact tb5 (List.mem_of_getElem? (i := 30) rfl) rfl
  | 9, _ => exact tb5 (List.mem_of_getElem? (i := 32) rfl) rfl
  | 10, _ => exact tb5 (List.mem_of_getElem? (i := 34) rfl) rfl
  | q + 11, hq => exact absurd hq (by omega)
section CoreC
variable {Z : ZZ} {μ : Mm} {k h : Nat} {v : Int32}
theorem fR_0_0 : flds Z 0 k (sR μ k 0 (some h)) = (flds Z 0 k μ).set 0 (.ref (za Z h)) := by simp [flds, iv, rv, sR, up2, va_rf]
theorem fI_0_1 : flds Z 0 k (sI μ k 1 v) = (flds Z 0 k μ).set 1 (.int v) := by simp [flds, iv, rv, sI, up2]
theorem fI_0_2 : flds Z 0 k (sI μ k 2 v) = (flds Z 0 k μ).set 2 (.int v) := by simp [flds, iv, rv, sI, up2]
theorem fI_0_3 : flds Z 0 k (sI μ k 3 v) = (flds Z 0 k μ).set 3 (.int v) := by simp [flds, iv, rv, sI, up2]
theorem fR_0_4 : flds Z 0 k (sR μ k 4 (some h)) = (flds Z 0 k μ).set 4 (.ref (za Z h)) := by simp [flds, iv, rv, sR, up2, va_rf]
theorem fR_0_5 : flds Z 0 k (sR μ k 5 (some h)) = (flds Z 0 k μ).set 5 (.ref (za Z h)) := by simp [flds, iv, rv, sR, up2, va_rf]
theorem fI_1_0 : flds Z 1 k (sI μ k 0 v) = (flds Z 1 k μ).set 0 (.int v) := by simp [flds, iv, rv, sI, up2]
theorem fI_1_1 : flds Z 1 k (sI μ k 1 v) = (flds Z 1 k μ).set 1 (.int v) := by simp [flds, iv, rv, sI, up2]
theorem fI_1_2 : flds Z 1 k (sI μ k 2 v) = (flds Z 1 k μ).set 2 (.int v) := by simp [flds, iv, rv, sI, up2]
theorem fI_1_3 : flds Z 1 k (sI μ k 3 v) = (flds Z 1 k μ).set 3 (.int v) := by simp [flds, iv, rv, sI, up2]
theorem fI_1_4 : flds Z 1 k (sI μ k 4 v) = (flds Z 1 k μ).set 4 (.int v) := by simp [flds, iv, rv, sI, up2]
theorem fI_1_5 : flds Z 1 k (sI μ k 5 v) = (flds Z 1 k μ).set 5 (.int v) := by simp [flds, iv, rv, sI, up2]
theorem fI_2_0 : flds Z 2 k (sI μ k 0 v) = (flds Z 2 k μ).set 0 (.int v) := by simp [flds, iv, rv, sI, up2]
theorem fI_2_1 : flds Z 2 k (sI μ k 1 v) = (flds Z 2 k μ).set 1 (.int v) := by simp [flds, iv, rv, sI, up2]
theorem fR_2_2 : flds Z 2 k (sR μ k 2 (some h)) = (flds Z 2 k μ).set 2 (.ref (za Z h)) := by simp [flds, iv, rv, sR, up2, va_rf]
theorem fR_2_3 : flds Z 2 k (sR μ k 3 (some h)) = (flds Z 2 k μ).set 3 (.ref (za Z h)) := by simp [flds, iv, rv, sR, up2, va_rf]
theorem fR_2_4 : flds Z 2 k (sR μ k 4 (some h)) = (flds Z 2 k μ).set 4 (.ref (za Z h)) := by simp [flds, iv, rv, sR, up2, va_rf]
theorem fI_3_0 : flds Z 3 k (sI μ k 0 v) = (flds Z 3 k μ).set 0 (.int v) := by simp [flds, iv, rv, sI, up2]
theorem fI_3_1 : flds Z 3 k (sI μ k 1 v) = (flds Z 3 k μ).set 1 (.int v) := by simp [flds, iv, rv, sI, up2]
theorem fI_3_2 : flds Z 3 k (sI μ k 2 v) = (flds Z 3 k μ).set 2 (.int v) := by simp [flds, iv, rv, sI, up2]
theorem fI_3_3 : flds Z 3 k (sI μ k 3 v) = (flds Z 3 k μ).set 3 (.int v) := by simp [flds, iv, rv, sI, up2]
theorem fR_3_4 : flds Z 3 k (sR μ k 4 (some h)) = (flds Z 3 k μ).set 4 (.ref (za Z h)) := by simp [flds, iv, rv, sR, up2, va_rf]
theorem fR_4_0 : flds Z 4 k (sR μ k 0 (some h)) = (flds Z 4 k μ).set 0 (.ref (za Z h)) := by simp [flds, iv, rv, sR, up2, va_rf]
theorem fR_4_1 : flds Z 4 k (sR μ k 1 (some h)) = (flds Z 4 k μ).set 1 (.ref (za Z h)) := by simp [flds, iv, rv, sR, up2, va_rf]
theorem fR_4_2 : flds Z 4 k (sR μ k 2 (some h)) = (flds Z 4 k μ).set 2 (.ref (za Z h)) := by simp [flds, iv, rv, sR, up2, va_rf]
theorem fR_4_3 : flds Z 4 k (sR μ k 3 (some h)) = (flds Z 4 k μ).set 3 (.ref (za Z h)) := by simp [flds, iv, rv, sR, up2, va_rf]
theorem fI_4_4 : flds Z 4 k (sI μ k 4 v) = (flds Z 4 k μ).set 4 (.int v) := by simp [flds, iv, rv, sI, up2]
theorem fR_4_5 : flds Z 4 k (sR μ k 5 (some h)) = (flds Z 4 k μ).set 5 (.ref (za Z h)) := by simp [flds, iv, rv, sR, up2, va_rf]
theorem fI_4_6 : flds Z 4 k (sI μ k 6 v) = (flds Z 4 k μ).set 6 (.int v) := by simp [flds, iv, rv, sI, up2]
theorem fI_4_7 : flds Z 4 k (sI μ k 7 v) = (flds Z 4 k μ).set 7 (.int v) := by simp [flds, iv, rv, sI, up2]
theorem fR_5_0 : flds Z 5 k (sR μ k 0 (some h)) = (flds Z 5 k μ).set 0 (.ref (za Z h)) := by simp [flds, iv, rv, sR, up2, va_rf]
theorem fR_5_1 : flds Z 5 k (sR μ k 1 (some h)) = (flds Z 5 k μ).set 1 (.ref (za Z h)) := by simp [flds, iv, rv, sR, up2, va_rf]
theorem fI_5_2 : flds Z 5 k (sI μ k 2 v) = (flds Z 5 k μ).set 2 (.int v) := by simp [flds, iv, rv, sI, up2]
theorem fR_5_3 : flds Z 5 k (sR μ k 3 (some h)) = (flds Z 5 k μ).set 3 (.ref (za Z h)) := by simp [flds, iv, rv, sR, up2, va_rf]
theorem fR_6_0 : flds Z 6 k (sR μ k 0 (some h)) = (flds Z 6 k μ).set 0 (.ref (za Z h)) := by simp [flds, iv, rv, sR, up2, va_rf]
theorem fR_6_1 : flds Z 6 k (sR μ k 1 (some h)) = (flds Z 6 k μ).set 1 (.ref (za Z h)) := by simp [flds, iv, rv, sR, up2, va_rf]
theorem fR_6_2 : flds Z 6 k (sR μ k 2 (some h)) = (flds Z 6 k μ).set 2 (.ref (za Z h)) := by simp [flds, iv, rv, sR, up2, va_rf]
theorem fI_6_3 : flds Z 6 k (sI μ k 3 v) = (flds Z 6 k μ).set 3 (.int v) := by simp [flds, iv, rv, sI, up2]
theorem fI_6_4 : flds Z 6 k (sI μ k 4 v) = (flds Z 6 k μ).set 4 (.int v) := by simp [flds, iv, rv, sI, up2]
theorem fR_6_5 : flds Z 6 k (sR μ k 5 (some h)) = (flds Z 6 k μ).set 5 (.ref (za Z h)) := by simp [flds, iv, rv, sR, up2, va_rf]
theorem fI_6_6 : flds Z 6 k (sI μ k 6 v) = (flds Z 6 k μ).set 6 (.int v) := by simp [flds, iv, rv, sI, up2]
theorem fI_6_7 : flds Z 6 k (sI μ k 7 v) = (flds Z 6 k μ).set 7 (.int v) := by simp [flds, iv, rv, sI, up2]
theorem fI_6_8 : flds Z 6 k (sI μ k 8 v) = (flds Z 6 k μ).set 8 (.int v) := by simp [flds, iv, rv, sI, up2]
theorem fI_6_9 : flds Z 6 k (sI μ k 9 v) = (flds Z 6 k μ).set 9 (.int v) := by simp [flds, iv, rv, sI, up2]
theorem fR_6_10 : flds Z 6 k (sR μ k 10 (some h)) = (flds Z 6 k μ).set 10 (.ref (za Z h)) := by simp [flds, iv, rv, sR, up2, va_rf]
end CoreC

section CoreD
abbrev XX : Type := Program × Launch × Env × Room × State × MethodId × Array Value × List Frame × Method × Code × (State → Prop)
def xp (X : XX) : Program := X.1
def xl (X : XX) : Launch := X.2.1
def xe (X : XX) : Env := X.2.2.1
def xR (X : XX) : Room := X.2.2.2.1
def xs (X : XX) : State := X.2.2.2.2.1
def xm (X : XX) : MethodId := X.2.2.2.2.2.1
def xa (X : XX) : Array Value := X.2.2.2.2.2.2.1
def xb (X : XX) : List Frame := X.2.2.2.2.2.2.2.1
def xh (X : XX) : Method := X.2.2.2.2.2.2.2.2.1
def xc (X : XX) : Code := X.2.2.2.2.2.2.2.2.2.1
def xQ (X : XX) : State → Prop := X.2.2.2.2.2.2.2.2.2.2
def WX (X : XX) (H : Heap) (locs : List Loc) (cells slots : Nat) (g : JFrame) : Prop := W (xp X) (xl X) (xe X) (xR X) (xs X) (xm X) (xa X) (xb X) (xh X) (xc X) H locs cells slots (xQ X) g
/-- the judgement: with the memory μ, the locals lv and the stack st, from pc on the method comes to its end -/
def G (Z : ZZ) (X : XX) (nL cells slots pc : Nat) (lv : List (Nat × Value)) (st : List Value) (μ : Mm) : Prop :=
  ∀ (H : Heap) (locs : List Loc) (ls : Array Slot), Wd Z μ (xs X) H → va_S (AA Z) (xs X).heap H locs → lv_has ls nL lv → W (xp X) (xl X) (xe X) (xR X) (xs X) (xm X) (xa X) (xb X) (xh X) (xc X) H locs cells slots (xQ X) (F0 (xm X) pc ls st)
def rmm (d mc ms : Nat) : Room := { frames := d, cells := mc, slots := ms, locals := 37 * d }
def Qc0 (Z : ZZ) (o : Option Value) (μ' : Mm) : Array Value → State → Outcome → State → Prop := fun _ st oc t => (oc = .returned o ∧ Wd Z μ' t t.heap) ∧ va_F (AA Z) st t
def Pc0 (Z : ZZ) (ex : Bool) (μ : Mm) (U : State) : Prop := Wd Z μ U U.heap ∧ (KK Z U ∧ NW U) ∧ OkZ Z ∧ zb Z ≤ U.heap.size ∧ (ex = true → U.heap.size = zb Z + zn Z)
/-- a method's contract: from the memory μ with the arguments av it returns o and leaves the memory μ' (of the world Z') -/
def CtM (l : Launch) (Z : ZZ) (ex : Bool) (y : MethodName) (bytes : ByteArray) (maxL : Nat) (rt : Option FieldType) (d mc ms : Nat) (av : List Value) (μ : Mm) (o : Option Value) (Z' : ZZ) (μ' : Mm) : Prop :=
  Met l y (Cond.code y bytes maxL rt :: TB) (rmm d mc ms) (va_Pc av (Pc0 Z ex μ)) (Qc0 Z' o μ') mc ms (AA Z)
/-- the context of a method's body -/
def Cx (l : Launch) (Z : ZZ) (ex : Bool) (X : XX) (cc : ByteArray) (own : String) (nL : Nat) (ret : Option FieldType) : Prop :=
  ((xp X).tables.exec = Jvm.exec ∧ (xc X).code = cc ∧ (xc X).maxLocals = nL) ∧ ((xs X).vm.findClass own = some (xm X).cls ∧ (∀ w ∈ TB, w.before (xa X) (xs X) = true) ∧ NW (xs X)) ∧ ((xh X).locks = false ∧ (xh X).sig.returnType = ret) ∧
  (KK Z (xs X) ∧ OkZ Z) ∧ (xl X = l ∧ zb Z ≤ (xs X).heap.size ∧ (ex = true → (xs X).heap.size = zb Z + zn Z))
/-- the end of a method's body -/
def Ex (Z : ZZ) (X : XX) (d mc ms : Nat) (o : Option Value) (Z' : ZZ) (μ' : Mm) : Prop := xQ X = MQ (xb X) (Qc0 Z' o μ') (xa X) (xs X) mc ms (AA Z) ∧ xR X = rmm d mc ms
section CxA
variable {l : Launch} {Z : ZZ} {ex : Bool} {X : XX} {cc : ByteArray} {own : String} {nL : Nat} {ret : Option FieldType}
theorem Cx.exec (C : Cx l Z ex X cc own nL ret) : (xp X).tables.exec = Jvm.exec := C.1.1
theorem Cx.code (C : Cx l Z ex X cc own nL ret) : (xc X).code = cc := C.1.2.1
theorem Cx.ml (C : Cx l Z ex X cc own nL ret) : (xc X).maxLocals = nL := C.1.2.2
theorem Cx.ow (C : Cx l Z ex X cc own nL ret) : (xs X).vm.findClass own = some (xm X).cls := C.2.1.1
theorem Cx.ts (C : Cx l Z ex X cc own nL ret) : ∀ w ∈ TB, w.before (xa X) (xs X) = true := C.2.1.2.1
theorem Cx.w (C : Cx l Z ex X cc own nL ret) {w : Cond} (h : w ∈ TB) : w.before (xa X) (xs X) = true := C.ts w h
theorem Cx.nw (C : Cx l Z ex X cc own nL ret) : NW (xs X) := C.2.1.2.2
theorem Cx.nf (C : Cx l Z ex X cc own nL ret) (i : Nat) {q : String × Nat × String × String × String × String} (h : NF[i]? = some q) : (Cond.fieldLinkNest q.1 q.2.1 q.2.2.1 q.2.2.2.1 q.2.2.2.2.1 q.2.2.2.2.2).before (xa X) (xs X) = true := va_Nw.use rfl (C.nw.1 q (List.mem_of_getElem? h))
theorem Cx.locks (C : Cx l Z ex X cc own nL ret) : (xh X).locks = false := C.2.2.1.1
theorem Cx.rt (C : Cx l Z ex X cc own nL ret) : (xh X).sig.returnType = ret := C.2.2.1.2
theorem Cx.K (C : Cx l Z ex X cc own nL ret) : KK Z (xs X) := C.2.2.2.1.1
theorem Cx.ok (C : Cx l Z ex X cc own nL ret) : OkZ Z := C.2.2.2.1.2
theorem Cx.ln (C : Cx l Z ex X cc own nL ret) : xl X = l := C.2.2.2.2.1
theorem Cx.b (C : Cx l Z ex X cc own nL ret) : zb Z ≤ (xs X).heap.size := C.2.2.2.2.2.1
theorem Cx.fix (C : Cx l Z ex X cc own nL ret) : CallFix (xp X) (xm X) (xc X) cc nL (xs X) (xa X) TB own := ⟨C.exec, C.code, C.ml, C.ow, C.ts⟩
end CxA
theorem pc0_blind {av : List Value} {Z : ZZ} {ex : Bool} {μ : Mm} : FrameBlind (va_Pc av (Pc0 Z ex μ)) := by
  intro a U g mk h
  obtain ⟨h1, ⟨hP, hs⟩, ⟨hK, hN⟩, hZ, hb, hx⟩ := h
  exact ⟨h1, ⟨hP, hZ.2.2.2.1 U (U.calling g mk a) _ (Vm.Alike.refl U.vm) hs⟩, ⟨va_K.moved (u := U) (U := U.calling g mk a) (Vm.Alike.refl U.vm) hK, NW.same (u := U) (U := U.calling g mk a) rfl hN⟩, hZ, hb, hx⟩
theorem ct_of {l : Launch} {Z : ZZ} {ex : Bool} {y : MethodName} {d mc ms : Nat} {av : List Value} {μ : Mm} {o : Option Value} {Z' : ZZ} {μ' : Mm} {cc : ByteArray} {nL : Nat} {ret : Option FieldType} {own : String}
    (hy : plainName y.cls = true) (ho : y.cls = own) (hlen : (lg_sl av).length ≤ nL)
    (body : ∀ X : XX, Cx l Z ex X cc own nL ret → Ex Z X d mc ms o Z' μ' → G Z X nL 0 0 0 (lv_args 0 av) [] μ) : CtM l Z ex y cc nL ret d mc ms av μ o Z' μ' := by
  refine Met.ofW (cc := cc) (maxL := nL) (ret := ret) (ws' := TB) hy rfl ?_
  intro p e s m args below meth c s₁ B hml hv
  obtain ⟨rfl, hW, ⟨hK, hN⟩, hZ, hb, hx⟩ := hv
  have hts := atoms_spec (ws := Cond.code y cc nL ret :: TB) B.pre
  have hown : s.vm.findClass own = some m.cls := by rw [← ho]; exact findClass_of_methodNamed B.named
  have hg := body (p, l, e, rmm d mc ms, s, m, av.toArray, below, meth, c, MQ below (Qc0 Z' o μ') av.toArray s mc ms (AA Z))
    ⟨⟨B.exec, B.bytes, hml⟩, ⟨hown, fun w h => hts w (List.mem_cons_of_mem _ h), hN⟩, ⟨B.notSynchronized, B.returns⟩, ⟨hK, hZ⟩, rfl, hb, hx⟩ ⟨rfl, rfl⟩
    s.heap [] _ hW va_S.rf (lv_entry av hlen)
  rw [lg_entry_eq]
  exact hg
section Rows
variable {l : Launch} {Z Z' : ZZ} {ex : Bool} {X : XX} {cc : ByteArray} {own : String} {nL : Nat} {ret : Option FieldType} {d mc ms : Nat} {o : Option Value} {μ μ' : Mm} {cells slots pc : Nat} {lv lv' : List (Nat × Value)} {rest : List Value}
theorem g_sub (ks : List Nat) (hl : lv_pick lv ks = lv') (k : G Z X nL cells slots pc lv' rest μ) : G Z X nL cells slots pc lv rest μ := fun H locs ls hW hS h => k H locs ls hW hS (lv_sub h ks hl)
theorem g_eq {μ1 : Mm} (e : μ1 = μ) (k : G Z X nL cells slots pc lv rest μ1) : G Z X nL cells slots pc lv rest μ := e ▸ k
theorem g_widen {c1 s1 : Nat} (h1 : cells ≤ c1) (h2 : slots ≤ s1) (k : G Z X nL c1 s1 pc lv rest μ) : G Z X nL cells slots pc lv rest μ := fun H locs ls hW hS h => W.widen h1 h2 (k H locs ls hW hS h)

theorem g_iconst (C : Cx l Z ex X cc own nL ret) {n : Int} {v : Int32} (hv : Int32.ofInt n = v) (hd : decode cc pc = .ok (.iconst n, 1)) (k : G Z X nL cells slots (pc + 1) lv (.int v :: rest) μ) : G Z X nL cells slots pc lv (rest) μ := fun H locs ls hW hS h => lv_iconst C.exec C.code hd hv (k H locs ls hW hS h)
theorem g_bipush (C : Cx l Z ex X cc own nL ret) {n : Int} {v : Int32} (hv : (Int8.ofInt n).toInt32 = v) (hd : decode cc pc = .ok (.bipush n, 2)) (k : G Z X nL cells slots (pc + 2) lv (.int v :: rest) μ) : G Z X nL cells slots pc lv (rest) μ := fun H locs ls hW hS h => lv_bipush C.exec C.code hd hv (k H locs ls hW hS h)
theorem g_sipush (C : Cx l Z ex X cc own nL ret) {n : Int} {v : Int32} (hv : (Int16.ofInt n).toInt32 = v) (hd : decode cc pc = .ok (.sipush n, 3)) (k : G Z X nL cells slots (pc + 3) lv (.int v :: rest) μ) : G Z X nL cells slots pc lv (rest) μ := fun H locs ls hW hS h => lv_sipush C.exec C.code hd hv (k H locs ls hW hS h)
theorem g_lconst (C : Cx l Z ex X cc own nL ret) {n : Fin 2} {v : Int64} (hv : Int64.ofNat (n : Nat) = v) (hd : decode cc pc = .ok (.lconst n, 1)) (k : G Z X nL cells slots (pc + 1) lv (.long v :: rest) μ) : G Z X nL cells slots pc lv (rest) μ := fun H locs ls hW hS h => lv_lconst C.exec C.code hd hv (k H locs ls hW hS h)
theorem g_iload_n (C : Cx l Z ex X cc own nL ret) {q : Fin 4} {i : Nat} {x : Int32} (j : Nat) (hq : (q : Nat) = i) (hk : lv[j]? = some (i, .int x)) (hd : decode cc pc = .ok (.iload_n q, 1)) (k : G Z X nL cells slots (pc + 1) lv (.int x :: rest) μ) : G Z X nL cells slots pc lv (rest) μ := fun H locs ls hW hS h => lv_iload_n C.exec C.code hd hq (lv_at h j hk) (k H locs ls hW hS h)
theorem g_iload (C : Cx l Z ex X cc own nL ret) {i : Nat} {x : Int32} (j : Nat) (hk : lv[j]? = some (i, .int x)) (hd : decode cc pc = .ok (.iload i, 2)) (k : G Z X nL cells slots (pc + 2) lv (.int x :: rest) μ) : G Z X nL cells slots pc lv (rest) μ := fun H locs ls hW hS h => lv_iload C.exec C.code hd (lv_at h j hk) (k H locs ls hW hS h)
theorem g_istore_n (C : Cx l Z ex X cc own nL ret) {q0 : Fin 4} {i : Nat} {x : Int32} (hd : decode cc pc = .ok (.istore_n q0, 1)) (hq : (q0 : Nat) = i) (hn : i < nL) (hl : (i, Value.int x) :: lv.filter (fun q => !(q.1 == i) && !(q.1 + 1 == i && q.2.category == 2)) = lv') (k : G Z X nL cells slots (pc + 1) lv' rest μ) : G Z X nL cells slots pc lv (.int x :: rest) μ := fun H locs ls hW hS h => lv_istore_n C.exec C.code hd hq h hn hl (fun ls2 h2 => k H locs ls2 hW hS h2)
theorem g_istore (C : Cx l Z ex X cc own nL ret) {i : Nat} {x : Int32} (hd : decode cc pc = .ok (.istore i, 2)) (hn : i < nL) (hl : (i, Value.int x) :: lv.filter (fun q => !(q.1 == i) && !(q.1 + 1 == i && q.2.category == 2)) = lv') (k : G Z X nL cells slots (pc + 2) lv' rest μ) : G Z X nL cells slots pc lv (.int x :: rest) μ := fun H locs ls hW hS h => lv_istore C.exec C.code hd h hn hl (fun ls2 h2 => k H locs ls2 hW hS h2)
theorem g_lload_n (C : Cx l Z ex X cc own nL ret) {q : Fin 4} {i : Nat} {x : Int64} (j : Nat) (hq : (q : Nat) = i) (hk : lv[j]? = some (i, .long x)) (hd : decode cc pc = .ok (.lload_n q, 1)) (k : G Z X nL cells slots (pc + 1) lv (.long x :: rest) μ) : G Z X nL cells slots pc lv (rest) μ := fun H locs ls hW hS h => lv_lload_n C.exec C.code hd hq (lv_at h j hk) (k H locs ls hW hS h)
theorem g_lload (C : Cx l Z ex X cc own nL ret) {i : Nat} {x : Int64} (j : Nat) (hk : lv[j]? = some (i, .long x)) (hd : decode cc pc = .ok (.lload i, 2)) (k : G Z X nL cells slots (pc + 2) lv (.long x :: rest) μ) : G Z X nL cells slots pc lv (rest) μ := fun H locs ls hW hS h => lv_lload C.exec C.code hd (lv_at h j hk) (k H locs ls hW hS h)
theorem g_lstore_n (C : Cx l Z ex X cc own nL ret) {q0 : Fin 4} {i : Nat} {x : Int64} (hd : decode cc pc = .ok (.lstore_n q0, 1)) (hq : (q0 : Nat) = i) (hn : i + 1 < nL) (hl : (i, Value.long x) :: lv.filter (fun q => !(q.1 == i) && (!(q.1 == i + 1) && !(q.1 + 1 == i && q.2.category == 2))) = lv') (k : G Z X nL cells slots (pc + 1) lv' rest μ) : G Z X nL cells slots pc lv (.long x :: rest) μ := fun H locs ls hW hS h => lv_lstore_n C.exec C.code hd hq h hn hl (fun ls2 h2 => k H locs ls2 hW hS h2)
theorem g_lstore (C : Cx l Z ex X cc own nL ret) {i : Nat} {x : Int64} (hd : decode cc pc = .ok (.lstore i, 2)) (hn : i + 1 < nL) (hl : (i, Value.long x) :: lv.filter (fun q => !(q.1 == i) && (!(q.1 == i + 1) && !(q.1 + 1 == i && q.2.category == 2))) = lv') (k : G Z X nL cells slots (pc + 2) lv' rest μ) : G Z X nL cells slots pc lv (.long x :: rest) μ := fun H locs ls hW hS h => lv_lstore C.exec C.code hd h hn hl (fun ls2 h2 => k H locs ls2 hW hS h2)
theorem g_aload_n (C : Cx l Z ex X cc own nL ret) {q : Fin 4} {i : Nat} {x : Nat} (j : Nat) (hq : (q : Nat) = i) (hk : lv[j]? = some (i, .ref x)) (hd : decode cc pc = .ok (.aload_n q, 1)) (k : G Z X nL cells slots (pc + 1) lv (.ref x :: rest) μ) : G Z X nL cells slots pc lv (rest) μ := fun H locs ls hW hS h => lv_aload_n C.exec C.code hd hq (lv_at h j hk) (k H locs ls hW hS h)
theorem g_aload (C : Cx l Z ex X cc own nL ret) {i : Nat} {x : Nat} (j : Nat) (hk : lv[j]? = some (i, .ref x)) (hd : decode cc pc = .ok (.aload i, 2)) (k : G Z X nL cells slots (pc + 2) lv (.ref x :: rest) μ) : G Z X nL cells slots pc lv (rest) μ := fun H locs ls hW hS h => lv_aload C.exec C.code hd (lv_at h j hk) (k H locs ls hW hS h)
theorem g_astore_n (C : Cx l Z ex X cc own nL ret) {q0 : Fin 4} {i : Nat} {x : Nat} (hd : decode cc pc = .ok (.astore_n q0, 1)) (hq : (q0 : Nat) = i) (hn : i < nL) (hl : (i, Value.ref x) :: lv.filter (fun q => !(q.1 == i) && !(q.1 + 1 == i && q.2.category == 2)) = lv') (k : G Z X nL cells slots (pc + 1) lv' rest μ) : G Z X nL cells slots pc lv (.ref x :: rest) μ := fun H locs ls hW hS h => lv_astore_n C.exec C.code hd hq h hn hl (fun ls2 h2 => k H locs ls2 hW hS h2)
theorem g_astore (C : Cx l Z ex X cc own nL ret) {i : Nat} {x : Nat} (hd : decode cc pc = .ok (.astore i, 2)) (hn : i < nL) (hl : (i, Value.ref x) :: lv.filter (fun q => !(q.1 == i) && !(q.1 + 1 == i && q.2.category == 2)) = lv') (k : G Z X nL cells slots (pc + 2) lv' rest μ) : G Z X nL cells slots pc lv (.ref x :: rest) μ := fun H locs ls hW hS h => lv_astore C.exec C.code hd h hn hl (fun ls2 h2 => k H locs ls2 hW hS h2)
theorem g_iinc (C : Cx l Z ex X cc own nL ret) {i : Nat} {n : Int} {x v : Int32} (j : Nat) (hd : decode cc pc = .ok (.iinc i n, 3)) (hk : lv[j]? = some (i, .int x)) (hv : x + Int32.ofInt n = v) (hn : i < nL) (hl : (i, Value.int v) :: lv.filter (fun q => !(q.1 == i) && !(q.1 + 1 == i && q.2.category == 2)) = lv') (k : G Z X nL cells slots (pc + 3) lv' rest μ) : G Z X nL cells slots pc lv rest μ := fun H locs ls hW hS h => lv_iinc C.exec C.code hd h hk hv hn hl (fun ls2 h2 => k H locs ls2 hW hS h2)
theorem g_iadd (C : Cx l Z ex X cc own nL ret) {x y : Int32} (hd : decode cc pc = .ok (.iadd, 1)) (k : G Z X nL cells slots (pc + 1) lv (.int (x + y) :: rest) μ) : G Z X nL cells slots pc lv (.int y :: .int x :: rest) μ := fun H locs ls hW hS h => lv_iadd C.exec C.code hd  (k H locs ls hW hS h)
theorem g_isub (C : Cx l Z ex X cc own nL ret) {x y : Int32} (hd : decode cc pc = .ok (.isub, 1)) (k : G Z X nL cells slots (pc + 1) lv (.int (x - y) :: rest) μ) : G Z X nL cells slots pc lv (.int y :: .int x :: rest) μ := fun H locs ls hW hS h => lv_isub C.exec C.code hd  (k H locs ls hW hS h)
theorem g_imul (C : Cx l Z ex X cc own nL ret) {x y : Int32} (hd : decode cc pc = .ok (.imul, 1)) (k : G Z X nL cells slots (pc + 1) lv (.int (x * y) :: rest) μ) : G Z X nL cells slots pc lv (.int y :: .int x :: rest) μ := fun H locs ls hW hS h => lv_imul C.exec C.code hd  (k H locs ls hW hS h)
theorem g_iand (C : Cx l Z ex X cc own nL ret) {x y : Int32} (hd : decode cc pc = .ok (.iand, 1)) (k : G Z X nL cells slots (pc + 1) lv (.int (x &&& y) :: rest) μ) : G Z X nL cells slots pc lv (.int y :: .int x :: rest) μ := fun H locs ls hW hS h => lv_iand C.exec C.code hd  (k H locs ls hW hS h)
theorem g_ior (C : Cx l Z ex X cc own nL ret) {x y : Int32} (hd : decode cc pc = .ok (.ior, 1)) (k : G Z X nL cells slots (pc + 1) lv (.int (x ||| y) :: rest) μ) : G Z X nL cells slots pc lv (.int y :: .int x :: rest) μ := fun H locs ls hW hS h => lv_ior C.exec C.code hd  (k H locs ls hW hS h)
theorem g_ixor (C : Cx l Z ex X cc own nL ret) {x y : Int32} (hd : decode cc pc = .ok (.ixor, 1)) (k : G Z X nL cells slots (pc + 1) lv (.int (x ^^^ y) :: rest) μ) : G Z X nL cells slots pc lv (.int y :: .int x :: rest) μ := fun H locs ls hW hS h => lv_ixor C.exec C.code hd  (k H locs ls hW hS h)
theorem g_ishl (C : Cx l Z ex X cc own nL ret) {x y : Int32} (hd : decode cc pc = .ok (.ishl, 1)) (k : G Z X nL cells slots (pc + 1) lv (.int (x <<< (y &&& 31)) :: rest) μ) : G Z X nL cells slots pc lv (.int y :: .int x :: rest) μ := fun H locs ls hW hS h => lv_ishl C.exec C.code hd  (k H locs ls hW hS h)
theorem g_ishr (C : Cx l Z ex X cc own nL ret) {x y : Int32} (hd : decode cc pc = .ok (.ishr, 1)) (k : G Z X nL cells slots (pc + 1) lv (.int (x >>> (y &&& 31)) :: rest) μ) : G Z X nL cells slots pc lv (.int y :: .int x :: rest) μ := fun H locs ls hW hS h => lv_ishr C.exec C.code hd  (k H locs ls hW hS h)
theorem g_iushr (C : Cx l Z ex X cc own nL ret) {x y : Int32} (hd : decode cc pc = .ok (.iushr, 1)) (k : G Z X nL cells slots (pc + 1) lv (.int ((x.toUInt32 >>> (y.toUInt32 &&& Int32.toUInt32 31)).toInt32) :: rest) μ) : G Z X nL cells slots pc lv (.int y :: .int x :: rest) μ := fun H locs ls hW hS h => lv_iushr C.exec C.code hd rfl (k H locs ls hW hS h)
theorem g_idiv (C : Cx l Z ex X cc own nL ret) {x y : Int32} (hne : ¬ y = 0) (hd : decode cc pc = .ok (.idiv, 1)) (k : G Z X nL cells slots (pc + 1) lv (.int (x / y) :: rest) μ) : G Z X nL cells slots pc lv (.int y :: .int x :: rest) μ := fun H locs ls hW hS h => lv_idiv C.exec C.code hd hne (k H locs ls hW hS h)
theorem g_irem (C : Cx l Z ex X cc own nL ret) {x y : Int32} (hne : ¬ y = 0) (hd : decode cc pc = .ok (.irem, 1)) (k : G Z X nL cells slots (pc + 1) lv (.int (x - x / y * y) :: rest) μ) : G Z X nL cells slots pc lv (.int y :: .int x :: rest) μ := fun H locs ls hW hS h => lv_irem C.exec C.code hd hne (k H locs ls hW hS h)
theorem g_ladd (C : Cx l Z ex X cc own nL ret) {x y : Int64} (hd : decode cc pc = .ok (.ladd, 1)) (k : G Z X nL cells slots (pc + 1) lv (.long (x + y) :: rest) μ) : G Z X nL cells slots pc lv (.long y :: .long x :: rest) μ := fun H locs ls hW hS h => lv_ladd C.exec C.code hd  (k H locs ls hW hS h)
theorem g_lsub (C : Cx l Z ex X cc own nL ret) {x y : Int64} (hd : decode cc pc = .ok (.lsub, 1)) (k : G Z X nL cells slots (pc + 1) lv (.long (x - y) :: rest) μ) : G Z X nL cells slots pc lv (.long y :: .long x :: rest) μ := fun H locs ls hW hS h => lv_lsub C.exec C.code hd  (k H locs ls hW hS h)
theorem g_lmul (C : Cx l Z ex X cc own nL ret) {x y : Int64} (hd : decode cc pc = .ok (.lmul, 1)) (k : G Z X nL cells slots (pc + 1) lv (.long (x * y) :: rest) μ) : G Z X nL cells slots pc lv (.long y :: .long x :: rest) μ := fun H locs ls hW hS h => lv_lmul C.exec C.code hd  (k H locs ls hW hS h)
theorem g_i2l (C : Cx l Z ex X cc own nL ret) {x : Int32} (hd : decode cc pc = .ok (.i2l, 1)) (k : G Z X nL cells slots (pc + 1) lv (.long x.toInt64 :: rest) μ) : G Z X nL cells slots pc lv (.int x :: rest) μ := fun H locs ls hW hS h => lv_i2l C.exec C.code hd rfl (k H locs ls hW hS h)
theorem g_i2c (C : Cx l Z ex X cc own nL ret) {x : Int32} (hd : decode cc pc = .ok (.i2c, 1)) (k : G Z X nL cells slots (pc + 1) lv (.int (x.toUInt32 % 65536).toInt32 :: rest) μ) : G Z X nL cells slots pc lv (.int x :: rest) μ := fun H locs ls hW hS h => lv_i2c C.exec C.code hd rfl (k H locs ls hW hS h)
theorem g_lcmp (C : Cx l Z ex X cc own nL ret) {x y : Int64} (hd : decode cc pc = .ok (.lcmp, 1)) (k : G Z X nL cells slots (pc + 1) lv (.int (lg_cmp x y) :: rest) μ) : G Z X nL cells slots pc lv (.long y :: .long x :: rest) μ := fun H locs ls hW hS h => W.lcmp C.exec C.code hd  (k H locs ls hW hS h)
theorem g_dup (C : Cx l Z ex X cc own nL ret) {v : Value} (hv : v.category = 1) (hd : decode cc pc = .ok (.dup, 1)) (k : G Z X nL cells slots (pc + 1) lv (v :: v :: rest) μ) : G Z X nL cells slots pc lv (v :: rest) μ := fun H locs ls hW hS h => lv_dup C.exec C.code hd hv (k H locs ls hW hS h)
theorem g_pop (C : Cx l Z ex X cc own nL ret) {v : Value} (hv : v.category = 1) (hd : decode cc pc = .ok (.pop, 1)) (k : G Z X nL cells slots (pc + 1) lv (rest) μ) : G Z X nL cells slots pc lv (v :: rest) μ := fun H locs ls hW hS h => lv_pop C.exec C.code hd hv (k H locs ls hW hS h)
theorem g_dup2 (C : Cx l Z ex X cc own nL ret) {v u : Value} (hv : v.category = 1) (hu : u.category = 1) (hd : decode cc pc = .ok (.dup2, 1)) (k : G Z X nL cells slots (pc + 1) lv (v :: u :: v :: u :: rest) μ) : G Z X nL cells slots pc lv (v :: u :: rest) μ := fun H locs ls hW hS h => lv_dup2_11 C.exec C.code hd hv hu (k H locs ls hW hS h)
theorem g_if_eq (C : Cx l Z ex X cc own nL ret) {x : Int32} {off : Int} {tgt : Nat} (hd : decode cc pc = .ok (.ifCond .eq off, 3)) (ht : (pc : Int) + off = (tgt : Int)) (kt : x = 0 → G Z X nL cells slots tgt lv rest μ) (kf : ¬ x = 0 → G Z X nL cells slots (pc + 3) lv rest μ) : G Z X nL cells slots pc lv (.int x :: rest) μ := fun H locs ls hW hS h => lv_if_eq C.exec C.code hd ht (fun c => kt c H locs ls hW hS h) (fun c => kf c H locs ls hW hS h)
theorem g_icmp_eq (C : Cx l Z ex X cc own nL ret) {x y : Int32} {off : Int} {tgt : Nat} (hd : decode cc pc = .ok (.if_icmp .eq off, 3)) (ht : (pc : Int) + off = (tgt : Int)) (kt : x = y → G Z X nL cells slots tgt lv rest μ) (kf : ¬ x = y → G Z X nL cells slots (pc + 3) lv rest μ) : G Z X nL cells slots pc lv (.int y :: .int x :: rest) μ := fun H locs ls hW hS h => lv_icmp_eq C.exec C.code hd ht (fun c => kt c H locs ls hW hS h) (fun c => kf c H locs ls hW hS h)
theorem g_if_ne (C : Cx l Z ex X cc own nL ret) {x : Int32} {off : Int} {tgt : Nat} (hd : decode cc pc = .ok (.ifCond .ne off, 3)) (ht : (pc : Int) + off = (tgt : Int)) (kt : ¬ x = 0 → G Z X nL cells slots tgt lv rest μ) (kf : x = 0 → G Z X nL cells slots (pc + 3) lv rest μ) : G Z X nL cells slots pc lv (.int x :: rest) μ := fun H locs ls hW hS h => lv_if_ne C.exec C.code hd ht (fun c => kt c H locs ls hW hS h) (fun c => kf c H locs ls hW hS h)
theorem g_icmp_ne (C : Cx l Z ex X cc own nL ret) {x y : Int32} {off : Int} {tgt : Nat} (hd : decode cc pc = .ok (.if_icmp .ne off, 3)) (ht : (pc : Int) + off = (tgt : Int)) (kt : ¬ x = y → G Z X nL cells slots tgt lv rest μ) (kf : x = y → G Z X nL cells slots (pc + 3) lv rest μ) : G Z X nL cells slots pc lv (.int y :: .int x :: rest) μ := fun H locs ls hW hS h => lv_icmp_ne C.exec C.code hd ht (fun c => kt c H locs ls hW hS h) (fun c => kf c H locs ls hW hS h)
theorem g_if_lt (C : Cx l Z ex X cc own nL ret) {x : Int32} {off : Int} {tgt : Nat} (hd : decode cc pc = .ok (.ifCond .lt off, 3)) (ht : (pc : Int) + off = (tgt : Int)) (kt : x < 0 → G Z X nL cells slots tgt lv rest μ) (kf : ¬ x < 0 → G Z X nL cells slots (pc + 3) lv rest μ) : G Z X nL cells slots pc lv (.int x :: rest) μ := fun H locs ls hW hS h => lv_if_lt C.exec C.code hd ht (fun c => kt c H locs ls hW hS h) (fun c => kf c H locs ls hW hS h)
theorem g_icmp_lt (C : Cx l Z ex X cc own nL ret) {x y : Int32} {off : Int} {tgt : Nat} (hd : decode cc pc = .ok (.if_icmp .lt off, 3)) (ht : (pc : Int) + off = (tgt : Int)) (kt : x < y → G Z X nL cells slots tgt lv rest μ) (kf : ¬ x < y → G Z X nL cells slots (pc + 3) lv rest μ) : G Z X nL cells slots pc lv (.int y :: .int x :: rest) μ := fun H locs ls hW hS h => lv_icmp_lt C.exec C.code hd ht (fun c => kt c H locs ls hW hS h) (fun c => kf c H locs ls hW hS h)
theorem g_if_ge (C : Cx l Z ex X cc own nL ret) {x : Int32} {off : Int} {tgt : Nat} (hd : decode cc pc = .ok (.ifCond .ge off, 3)) (ht : (pc : Int) + off = (tgt : Int)) (kt : 0 ≤ x → G Z X nL cells slots tgt lv rest μ) (kf : ¬ 0 ≤ x → G Z X nL cells slots (pc + 3) lv rest μ) : G Z X nL cells slots pc lv (.int x :: rest) μ := fun H locs ls hW hS h => lv_if_ge C.exec C.code hd ht (fun c => kt c H locs ls hW hS h) (fun c => kf c H locs ls hW hS h)
theorem g_icmp_ge (C : Cx l Z ex X cc own nL ret) {x y : Int32} {off : Int} {tgt : Nat} (hd : decode cc pc = .ok (.if_icmp .ge off, 3)) (ht : (pc : Int) + off = (tgt : Int)) (kt : y ≤ x → G Z X nL cells slots tgt lv rest μ) (kf : ¬ y ≤ x → G Z X nL cells slots (pc + 3) lv rest μ) : G Z X nL cells slots pc lv (.int y :: .int x :: rest) μ := fun H locs ls hW hS h => lv_icmp_ge C.exec C.code hd ht (fun c => kt c H locs ls hW hS h) (fun c => kf c H locs ls hW hS h)
theorem g_if_gt (C : Cx l Z ex X cc own nL ret) {x : Int32} {off : Int} {tgt : Nat} (hd : decode cc pc = .ok (.ifCond .gt off, 3)) (ht : (pc : Int) + off = (tgt : Int)) (kt : 0 < x → G Z X nL cells slots tgt lv rest μ) (kf : ¬ 0 < x → G Z X nL cells slots (pc + 3) lv rest μ) : G Z X nL cells slots pc lv (.int x :: rest) μ := fun H locs ls hW hS h => lv_if_gt C.exec C.code hd ht (fun c => kt c H locs ls hW hS h) (fun c => kf c H locs ls hW hS h)
theorem g_icmp_gt (C : Cx l Z ex X cc own nL ret) {x y : Int32} {off : Int} {tgt : Nat} (hd : decode cc pc = .ok (.if_icmp .gt off, 3)) (ht : (pc : Int) + off = (tgt : Int)) (kt : y < x → G Z X nL cells slots tgt lv rest μ) (kf : ¬ y < x → G Z X nL cells slots (pc + 3) lv rest μ) : G Z X nL cells slots pc lv (.int y :: .int x :: rest) μ := fun H locs ls hW hS h => lv_icmp_gt C.exec C.code hd ht (fun c => kt c H locs ls hW hS h) (fun c => kf c H locs ls hW hS h)
theorem g_if_le (C : Cx l Z ex X cc own nL ret) {x : Int32} {off : Int} {tgt : Nat} (hd : decode cc pc = .ok (.ifCond .le off, 3)) (ht : (pc : Int) + off = (tgt : Int)) (kt : x ≤ 0 → G Z X nL cells slots tgt lv rest μ) (kf : ¬ x ≤ 0 → G Z X nL cells slots (pc + 3) lv rest μ) : G Z X nL cells slots pc lv (.int x :: rest) μ := fun H locs ls hW hS h => lv_if_le C.exec C.code hd ht (fun c => kt c H locs ls hW hS h) (fun c => kf c H locs ls hW hS h)
theorem g_icmp_le (C : Cx l Z ex X cc own nL ret) {x y : Int32} {off : Int} {tgt : Nat} (hd : decode cc pc = .ok (.if_icmp .le off, 3)) (ht : (pc : Int) + off = (tgt : Int)) (kt : x ≤ y → G Z X nL cells slots tgt lv rest μ) (kf : ¬ x ≤ y → G Z X nL cells slots (pc + 3) lv rest μ) : G Z X nL cells slots pc lv (.int y :: .int x :: rest) μ := fun H locs ls hW hS h => lv_icmp_le C.exec C.code hd ht (fun c => kt c H locs ls hW hS h) (fun c => kf c H locs ls hW hS h)
theorem g_goto (C : Cx l Z ex X cc own nL ret) {off : Int} {tgt : Nat} (hd : decode cc pc = .ok (.goto off, 3)) (ht : (pc : Int) + off = (tgt : Int)) (k : G Z X nL cells slots tgt lv rest μ) : G Z X nL cells slots pc lv rest μ := fun H locs ls hW hS h => lv_goto C.exec C.code hd ht (k H locs ls hW hS h)
theorem g_tout (C : Cx l Z ex X cc own nL ret) {dflt lo hi : Int} {offs : Array Int} {len : Nat} {x : Int32} {tgt : Nat} (hd : decode cc pc = .ok (.tableswitch dflt lo hi offs, len)) (h9 : x.toInt < lo ∨ hi < x.toInt) (ht : (pc : Int) + dflt = (tgt : Int)) (k : G Z X nL cells slots tgt lv rest μ) : G Z X nL cells slots pc lv (.int x :: rest) μ := fun H locs ls hW hS h => lv_tableOut C.exec C.code hd h9 ht (k H locs ls hW hS h)
theorem g_tin (C : Cx l Z ex X cc own nL ret) {dflt lo hi : Int} {offs : Array Int} {len : Nat} {x : Int32} {off : Int} {tgt : Nat} (hd : decode cc pc = .ok (.tableswitch dflt lo hi offs, len)) (h1 : ¬ x.toInt < lo) (h2 : ¬ hi < x.toInt) (ho : offs[(x.toInt - lo).toNat]? = some off) (ht : (pc : Int) + off = (tgt : Int)) (k : G Z X nL cells slots tgt lv rest μ) : G Z X nL cells slots pc lv (.int x :: rest) μ := fun H locs ls hW hS h => lv_tableIn C.exec C.code hd h1 h2 ho ht (k H locs ls hW hS h)
theorem g_ldc (C : Cx l Z ex X cc own nL ret) {index : Nat} {v : Int32} (hc : (Jvm.Cond.constant own index v).before (xa X) (xs X) = true) (hd : decode cc pc = .ok (.ldc index, 2)) (k : G Z X nL cells slots (pc + 2) lv (.int v :: rest) μ) : G Z X nL cells slots pc lv rest μ := fun H locs ls hW hS h => lv_ldc C.exec C.code C.ow hc hd (k H locs ls hW hS h)
theorem g_ldcw (C : Cx l Z ex X cc own nL ret) {index : Nat} {v : Int32} (hc : (Jvm.Cond.constant own index v).before (xa X) (xs X) = true) (hd : decode cc pc = .ok (.ldc_w index, 3)) (k : G Z X nL cells slots (pc + 3) lv (.int v :: rest) μ) : G Z X nL cells slots pc lv rest μ := fun H locs ls hW hS h => lv_ldcw C.exec C.code C.ow hc hd (k H locs ls hW hS h)
theorem g_ldc2 (C : Cx l Z ex X cc own nL ret) {index : Nat} {v : Int64} (hc : (Jvm.Cond.constantLong own index v).before (xa X) (xs X) = true) (hd : decode cc pc = .ok (.ldc2_w index, 3)) (k : G Z X nL cells slots (pc + 3) lv (.long v :: rest) μ) : G Z X nL cells slots pc lv rest μ := fun H locs ls hW hS h => lv_ldc2 C.exec C.code C.ow hc hd (k H locs ls hW hS h)
theorem g_getf (C : Cx l Z ex X cc own nL ret) {CN : String} {T : u_T} {N c index b : Nat} {v : Value} (hin : ∀ w ∈ u_ws CN T N, w ∈ TB) (hc : vwCl[c]? = some (CN, T, N)) (hc7 : c < 7) (hb : (zk Z b).1 = c) (j : Nat) (hj : j < N) (hlink : (Cond.fieldLink own index (T j).1 (T j).2.1 (T j).2.2.1).before (xa X) (xs X) = true) (hv : (flds Z c b μ)[j]? = some v) (hd : decode cc pc = .ok (.getfield index, 3))
    (k : G Z X nL cells slots (pc + 3) lv (v :: rest) μ) : G Z X nL cells slots pc lv (.ref (za Z b) :: rest) μ := fun H locs ls hW hS h =>
  va_get C.exec C.code C.ts hin C.ow C.K hW.1 b (wl_get (zk_lt C.ok hb (by omega)) |>.trans (by rw [ce_obj hb hc7])) hc j hj hlink (fun _ q => q) hv hd (k H locs ls hW hS h)
theorem g_getfN (C : Cx l Z ex X cc own nL ret) {CN host : String} {T : u_T} {N c index b : Nat} {v : Value} (hin : ∀ w ∈ u_ws CN T N, w ∈ TB) (hc : vwCl[c]? = some (CN, T, N)) (hc7 : c < 7) (hb : (zk Z b).1 = c) (j : Nat) (hj : j < N) (hlink : (Cond.fieldLinkNest own index (T j).1 (T j).2.1 (T j).2.2.1 host).before (xa X) (xs X) = true) (hv : (flds Z c b μ)[j]? = some v) (hd : decode cc pc = .ok (.getfield index, 3))
    (k : G Z X nL cells slots (pc + 3) lv (v :: rest) μ) : G Z X nL cells slots pc lv (.ref (za Z b) :: rest) μ := fun H locs ls hW hS h =>
  va_getN C.exec C.code C.ts hin C.ow C.K hW.1 b (wl_get (zk_lt C.ok hb (by omega)) |>.trans (by rw [ce_obj hb hc7])) hc j hj hlink (fun _ q => q) hv hd (k H locs ls hW hS h)
theorem g_putI (C : Cx l Z ex X cc own nL ret) {CN : String} {T : u_T} {ty : Nat → FieldType} {N c index b : Nat} {v : Int32} (hin : ∀ w ∈ u_ws CN T N, w ∈ TB) (hty : ∀ k, k < N → parseFieldDescriptor (T k).2.2.1 = some (ty k)) (hnm : ∀ a, a < N → ∀ b, b < N → a ≠ b → (T a).2.1 ≠ (T b).2.1) (hc : vwCl[c]? = some (CN, T, N)) (hc7 : c < 7) (hN : kN c = N) (hb : (zk Z b).1 = c) (j : Nat) (hj : j < N) (hlink : (Cond.fieldLink own index (T j).1 (T j).2.1 (T j).2.2.1).before (xa X) (xs X) = true) (hfin : (T j).2.2.2 = false) (hn : narrow (ty j) (.int v) = .int v) (hfit : fits (ty j) (.int v) = true)
    (hf : flds Z c b (sI μ b j v) = (flds Z c b μ).set j (.int v)) (he : μ' = sI μ b j v) (hd : decode cc pc = .ok (.putfield index, 3))
    (k : G Z X nL cells slots (pc + 3) lv rest μ') : G Z X nL cells slots pc lv (.int v :: .ref (za Z b) :: rest) μ := by
  subst he
  intro H locs ls hW hS h
  have hlt := zk_lt C.ok hb (by omega)
  refine va_put C.exec C.code C.ts hin ty hty hnm C.ow C.K hW.1 (wl_D C.ok μ) hS b (wl_get hlt |>.trans (by rw [ce_obj hb hc7])) hc j hj hlink (fun _ q => q) hfin (hty j hj) hn hfit (by rw [fl_len c hc7, hN]; exact hj) hd (fun H1 locs1 hP1 hD1 hS1 => ?_)
  rw [wl_set (μ' := sI μ b j v) hlt (by rw [ce_obj hb hc7, hf]) (fun a ha => ce_sI ha)] at hP1
  exact k H1 locs1 ls ⟨hP1, C.ok.2.2.2.2 _ _ _ (fun a ha hna => (hS1.2.1 a (by unfold AA at hna; have := C.b; omega) hna).trans (hS.2.1 a (by unfold AA at hna; have := C.b; omega) hna).symm) hW.2⟩ hS1 h
theorem g_putIN (C : Cx l Z ex X cc own nL ret) {CN host : String} {T : u_T} {ty : Nat → FieldType} {N c index b : Nat} {v : Int32} (hin : ∀ w ∈ u_ws CN T N, w ∈ TB) (hty : ∀ k, k < N → parseFieldDescriptor (T k).2.2.1 = some (ty k)) (hnm : ∀ a, a < N → ∀ b, b < N → a ≠ b → (T a).2.1 ≠ (T b).2.1) (hc : vwCl[c]? = some (CN, T, N)) (hc7 : c < 7) (hN : kN c = N) (hb : (zk Z b).1 = c) (j : Nat) (hj : j < N) (hlink : (Cond.fieldLinkNest own index (T j).1 (T j).2.1 (T j).2.2.1 host).before (xa X) (xs X) = true) (hfin : (T j).2.2.2 = false) (hn : narrow (ty j) (.int v) = .int v) (hfit : fits (ty j) (.int v) = true)
    (hf : flds Z c b (sI μ b j v) = (flds Z c b μ).set j (.int v)) (he : μ' = sI μ b j v) (hd : decode cc pc = .ok (.putfield index, 3))
    (k : G Z X nL cells slots (pc + 3) lv rest μ') : G Z X nL cells slots pc lv (.int v :: .ref (za Z b) :: rest) μ := by
  subst he
  intro H locs ls hW hS h
  have hlt := zk_lt C.ok hb (by omega)
  refine va_putN C.exec C.code C.ts hin ty hty hnm C.ow C.K hW.1 (wl_D C.ok μ) hS b (wl_get hlt |>.trans (by rw [ce_obj hb hc7])) hc j hj hlink (fun _ q => q) hfin (hty j hj) hn hfit (by rw [fl_len c hc7, hN]; exact hj) hd (fun H1 locs1 hP1 hD1 hS1 => ?_)
  rw [wl_set (μ' := sI μ b j v) hlt (by rw [ce_obj hb hc7, hf]) (fun a ha => ce_sI ha)] at hP1
  exact k H1 locs1 ls ⟨hP1, C.ok.2.2.2.2 _ _ _ (fun a ha hna => (hS1.2.1 a (by unfold AA at hna; have := C.b; omega) hna).trans (hS.2.1 a (by unfold AA at hna; have := C.b; omega) hna).symm) hW.2⟩ hS1 h
theorem g_putR (C : Cx l Z ex X cc own nL ret) {CN : String} {T : u_T} {ty : Nat → FieldType} {N c index b r : Nat} (hin : ∀ w ∈ u_ws CN T N, w ∈ TB) (hty : ∀ k, k < N → parseFieldDescriptor (T k).2.2.1 = some (ty k)) (hnm : ∀ a, a < N → ∀ b, b < N → a ≠ b → (T a).2.1 ≠ (T b).2.1) (hc : vwCl[c]? = some (CN, T, N)) (hc7 : c < 7) (hN : kN c = N) (hb : (zk Z b).1 = c) (j : Nat) (hj : j < N) (hlink : (Cond.fieldLink own index (T j).1 (T j).2.1 (T j).2.2.1).before (xa X) (xs X) = true) (hfin : (T j).2.2.2 = false) (hn : narrow (ty j) (.ref (za Z r)) = .ref (za Z r)) (hfit : fits (ty j) (.ref (za Z r)) = true)
    (hf : flds Z c b (sR μ b j (some r)) = (flds Z c b μ).set j (.ref (za Z r))) (he : μ' = sR μ b j (some r)) (hd : decode cc pc = .ok (.putfield index, 3))
    (k : G Z X nL cells slots (pc + 3) lv rest μ') : G Z X nL cells slots pc lv (.ref (za Z r) :: .ref (za Z b) :: rest) μ := by
  subst he
  intro H locs ls hW hS h
  have hlt := zk_lt C.ok hb (by omega)
  refine va_put C.exec C.code C.ts hin ty hty hnm C.ow C.K hW.1 (wl_D C.ok μ) hS b (wl_get hlt |>.trans (by rw [ce_obj hb hc7])) hc j hj hlink (fun _ q => q) hfin (hty j hj) hn hfit (by rw [fl_len c hc7, hN]; exact hj) hd (fun H1 locs1 hP1 hD1 hS1 => ?_)
  rw [wl_set (μ' := sR μ b j (some r)) hlt (by rw [ce_obj hb hc7, hf]) (fun a ha => ce_sR ha)] at hP1
  exact k H1 locs1 ls ⟨hP1, C.ok.2.2.2.2 _ _ _ (fun a ha hna => (hS1.2.1 a (by unfold AA at hna; have := C.b; omega) hna).trans (hS.2.1 a (by unfold AA at hna; have := C.b; omega) hna).symm) hW.2⟩ hS1 h
theorem g_putRF (C : Cx l Z ex X cc own nL ret) {CN : String} {T : u_T} {ty : Nat → FieldType} {N c index b r : Nat} (hin : ∀ w ∈ u_ws CN T N, w ∈ TB) (hty : ∀ k, k < N → parseFieldDescriptor (T k).2.2.1 = some (ty k)) (hnm : ∀ a, a < N → ∀ b, b < N → a ≠ b → (T a).2.1 ≠ (T b).2.1) (hc : vwCl[c]? = some (CN, T, N)) (hc7 : c < 7) (hN : kN c = N) (hb : (zk Z b).1 = c) (j : Nat) (hj : j < N) (hlink : (Cond.fieldLink own index (T j).1 (T j).2.1 (T j).2.2.1).before (xa X) (xs X) = true) (hfin : (T j).2.2.2 = true) (hini : (xh X).name = "<init>") (hdecl : (T j).1 = own) (hn : narrow (ty j) (.ref (za Z r)) = .ref (za Z r)) (hfit : fits (ty j) (.ref (za Z r)) = true)
    (hf : flds Z c b (sR μ b j (some r)) = (flds Z c b μ).set j (.ref (za Z r))) (he : μ' = sR μ b j (some r)) (hd : decode cc pc = .ok (.putfield index, 3))
    (k : G Z X nL cells slots (pc + 3) lv rest μ') : G Z X nL cells slots pc lv (.ref (za Z r) :: .ref (za Z b) :: rest) μ := by
  subst he
  intro H locs ls hW hS h
  have hlt := zk_lt C.ok hb (by omega)
  refine va_putF C.exec C.code C.ts hin ty hty hnm C.ow C.K hW.1 (wl_D C.ok μ) hS b (wl_get hlt |>.trans (by rw [ce_obj hb hc7])) hc j hj hlink (fun _ q => q) hfin hini hdecl (hty j hj) hn hfit (by rw [fl_len c hc7, hN]; exact hj) hd (fun H1 locs1 hP1 hD1 hS1 => ?_)
  rw [wl_set (μ' := sR μ b j (some r)) hlt (by rw [ce_obj hb hc7, hf]) (fun a ha => ce_sR ha)] at hP1
  exact k H1 locs1 ls ⟨hP1, C.ok.2.2.2.2 _ _ _ (fun a ha hna => (hS1.2.1 a (by unfold AA at hna; have := C.b; omega) hna).trans (hS.2.1 a (by unfold AA at hna; have := C.b; omega) hna).symm) hW.2⟩ hS1 h
theorem g_iald (C : Cx l Z ex X cc own nL ret) {a : Nat} {i : Int32} (ha : (zk Z a).1 = 8) (hi : inb i (zk Z a).2) (hd : decode cc pc = .ok (.iaload, 1))
    (k : G Z X nL cells slots (pc + 1) lv (.int (μ.1 a (ix i)) :: rest) μ) : G Z X nL cells slots pc lv (.int i :: .ref (za Z a) :: rest) μ := fun H locs ls hW hS h =>
  va_iald C.exec C.code C.K hW.1 a 1 (wl_get (zk_lt C.ok ha (by omega)) |>.trans (by rw [ce_int ha])) rfl hi hd (k H locs ls hW hS h)
theorem g_cald (C : Cx l Z ex X cc own nL ret) {a : Nat} {i : Int32} (ha : (zk Z a).1 = 7) (hi : inb i (zk Z a).2) (hd : decode cc pc = .ok (.caload, 1))
    (k : G Z X nL cells slots (pc + 1) lv (.int (μ.1 a (ix i)) :: rest) μ) : G Z X nL cells slots pc lv (.int i :: .ref (za Z a) :: rest) μ := fun H locs ls hW hS h =>
  va_cald C.exec C.code C.K hW.1 a 0 (wl_get (zk_lt C.ok ha (by omega)) |>.trans (by rw [ce_chr ha])) rfl hi hd (k H locs ls hW hS h)
theorem g_lald (C : Cx l Z ex X cc own nL ret) {a : Nat} {i : Int32} (ha : (zk Z a).1 = 12) (hi : inb i (zk Z a).2) (hd : decode cc pc = .ok (.laload, 1))
    (k : G Z X nL cells slots (pc + 1) lv (.long (μ.2.2 a (ix i)) :: rest) μ) : G Z X nL cells slots pc lv (.int i :: .ref (za Z a) :: rest) μ := fun H locs ls hW hS h =>
  va_lald C.exec C.code C.K hW.1 a 5 (wl_get (zk_lt C.ok ha (by omega)) |>.trans (by rw [ce_lng ha])) rfl hi hd (k H locs ls hW hS h)
theorem g_aald (C : Cx l Z ex X cc own nL ret) {a c : Nat} {i : Int32} (CN : String) (t : Nat) (ht : (zT Z)[t]? = some (zc Z (c - 7), .object CN)) (h1 : ¬ c < 9) (h2 : c < 12) (ha : (zk Z a).1 = c) (hi : inb i (zk Z a).2) (hd : decode cc pc = .ok (.aaload, 1)) {r : Nat} (hr : μ.2.1 a (ix i) = some r)
    (k : G Z X nL cells slots (pc + 1) lv (.ref (za Z r) :: rest) μ) : G Z X nL cells slots pc lv (.int i :: .ref (za Z a) :: rest) μ := fun H locs ls hW hS h =>
  va_aldq C.exec C.code C.K hW.1 a t (wl_get (zk_lt C.ok ha (by omega)) |>.trans (by rw [ce_ref ha h1 h2])) ht hi hd (by
    show W _ _ _ _ _ _ _ _ _ _ _ _ _ _ _ (F0 _ _ _ (va_rf ((μ.2.1 a i.toNatClampNeg).map (za Z)) :: _))
    rw [hr]
    exact k H locs ls hW hS h)
theorem g_alen (C : Cx l Z ex X cc own nL ret) {a : Nat} {v : Int32} (ha : (zk Z a).1 = 8) (hv : Int32.ofNat (zk Z a).2 = v) (hd : decode cc pc = .ok (.arraylength, 1))
    (k : G Z X nL cells slots (pc + 1) lv (.int v :: rest) μ) : G Z X nL cells slots pc lv (.ref (za Z a) :: rest) μ := fun H locs ls hW hS h =>
  va_alen C.exec C.code C.K hW.1 a 1 (wl_get (zk_lt C.ok ha (by omega)) |>.trans (by rw [ce_int ha])) rfl hv hd (k H locs ls hW hS h)
theorem wd_put (C : Cx l Z ex X cc own nL ret) {H H1 : Heap} {locs locs1 : List Loc} (hW : Wd Z μ (xs X) H) (hS : va_S (AA Z) (xs X).heap H locs) (hS1 : va_S (AA Z) (xs X).heap H1 locs1) (hP1 : va_P (zD Z) vwCl (wl Z μ') H1) : Wd Z μ' (xs X) H1 :=
  ⟨hP1, C.ok.2.2.2.2 _ _ _ (fun a ha hna => (hS1.2.1 a (by unfold AA at hna; have := C.b; omega) hna).trans (hS.2.1 a (by unfold AA at hna; have := C.b; omega) hna).symm) hW.2⟩
theorem g_iast (C : Cx l Z ex X cc own nL ret) {a : Nat} {i x : Int32} (ha : (zk Z a).1 = 8) (hi : inb i (zk Z a).2) (he : μ' = sI μ a (ix i) x) (hd : decode cc pc = .ok (.iastore, 1))
    (k : G Z X nL cells slots (pc + 1) lv rest μ') : G Z X nL cells slots pc lv (.int x :: .int i :: .ref (za Z a) :: rest) μ := by
  subst he
  intro H locs ls hW hS h
  have hlt := zk_lt C.ok ha (by omega)
  refine va_iast C.exec C.code C.K hW.1 (wl_D C.ok μ) hS a 1 (wl_get hlt |>.trans (by rw [ce_int ha])) rfl hi hd (fun H1 locs1 hP1 hD1 hS1 => ?_)
  rw [wl_set (μ' := sI μ a (ix i) x) hlt (by rw [ce_int ha]; show _ = Sum.inl (_, _, Sum.inl (up2 _ _ _ _ _)); rw [up2_self]; rfl) (fun b hb => ce_sI hb)] at hP1
  exact k H1 locs1 ls (wd_put C hW hS hS1 hP1) hS1 h
theorem g_cast (C : Cx l Z ex X cc own nL ret) {a : Nat} {i x : Int32} (ha : (zk Z a).1 = 7) (hi : inb i (zk Z a).2) (he : μ' = sI μ a (ix i) (vp_nar .char x)) (hd : decode cc pc = .ok (.castore, 1))
    (k : G Z X nL cells slots (pc + 1) lv rest μ') : G Z X nL cells slots pc lv (.int x :: .int i :: .ref (za Z a) :: rest) μ := by
  subst he
  intro H locs ls hW hS h
  have hlt := zk_lt C.ok ha (by omega)
  refine va_cast C.exec C.code C.K hW.1 (wl_D C.ok μ) hS a 0 (wl_get hlt |>.trans (by rw [ce_chr ha])) rfl hi hd (fun H1 locs1 hP1 hD1 hS1 => ?_)
  rw [wl_set (μ' := sI μ a (ix i) (vp_nar .char x)) hlt (by rw [ce_chr ha]; show _ = Sum.inl (_, _, Sum.inl (up2 _ _ _ _ _)); rw [up2_self]; rfl) (fun b hb => ce_sI hb)] at hP1
  exact k H1 locs1 ls (wd_put C hW hS hS1 hP1) hS1 h
theorem g_last (C : Cx l Z ex X cc own nL ret) {a : Nat} {i : Int32} {x : Int64} (ha : (zk Z a).1 = 12) (hi : inb i (zk Z a).2) (he : μ' = sJ μ a (ix i) x) (hd : decode cc pc = .ok (.lastore, 1))
    (k : G Z X nL cells slots (pc + 1) lv rest μ') : G Z X nL cells slots pc lv (.long x :: .int i :: .ref (za Z a) :: rest) μ := by
  subst he
  intro H locs ls hW hS h
  have hlt := zk_lt C.ok ha (by omega)
  refine va_last C.exec C.code C.K hW.1 (wl_D C.ok μ) hS a 5 (wl_get hlt |>.trans (by rw [ce_lng ha])) rfl hi hd (fun H1 locs1 hP1 hD1 hS1 => ?_)
  rw [wl_set (μ' := sJ μ a (ix i) x) hlt (by rw [ce_lng ha]; show _ = Sum.inl (_, _, Sum.inr (Sum.inl (up2 _ _ _ _ _))); rw [up2_self]; rfl) (fun b hb => ce_sJ hb)] at hP1
  exact k H1 locs1 ls (wd_put C hW hS hS1 hP1) hS1 h
theorem g_aast (C : Cx l Z ex X cc own nL ret) {a c r c2 N2 : Nat} {i : Int32} {CN : String} {T2 : u_T} (t : Nat) (ht : (zT Z)[t]? = some (zc Z (c - 7), .object CN)) (h1 : ¬ c < 9) (h2 : c < 12) (ha : (zk Z a).1 = c) (hi : inb i (zk Z a).2) (hr : (zk Z r).1 = c2) (hc2 : c2 < 7) (hcl : vwCl[c2]? = some (CN, T2, N2)) (he : μ' = sR μ a (ix i) (some r)) (hd : decode cc pc = .ok (.aastore, 1))
    (k : G Z X nL cells slots (pc + 1) lv rest μ') : G Z X nL cells slots pc lv (.ref (za Z r) :: .int i :: .ref (za Z a) :: rest) μ := by
  subst he
  intro H locs ls hW hS h
  have hlt := zk_lt C.ok ha (by omega)
  refine va_astq (r := (CN, T2, N2)) C.exec C.code C.K hW.1 (wl_D C.ok μ) hS a t r c2 (wl_get hlt |>.trans (by rw [ce_ref ha h1 h2])) ht (wl_get (zk_lt C.ok hr (by omega)) |>.trans (by rw [ce_obj hr hc2])) hcl hi hd (fun H1 locs1 hP1 hD1 hS1 => ?_)
  have e9 : va_up (fun j => Option.map (za Z) (μ.2.1 a j)) i.toNatClampNeg (some (za Z r)) = fun j => Option.map (za Z) ((sR μ a (ix i) (some r)).2.1 a j) := by
    funext j
    by_cases hj : j = ix i
    · simp [va_up, sR, up2, hj]
    · simp [va_up, sR, up2, hj]
  rw [e9, wl_set (μ' := sR μ a (ix i) (some r)) hlt (by rw [ce_ref ha h1 h2]) (fun b hb => ce_sR hb)] at hP1
  exact k H1 locs1 ls (wd_put C hW hS hS1 hP1) hS1 h

/-- the ends -/
theorem g_iret (C : Cx l Z ex X cc own nL ret) {x : Int32} {ty : FieldType} (E : Ex Z X d mc ms (some (.int x)) Z μ) (hrt : ret = some ty) (hn : narrow ty (.int x) = .int x) (hc : cells ≤ mc) (hs : slots ≤ ms) (hd : decode cc pc = .ok (.ireturn, 1)) : G Z X nL cells slots pc lv [.int x] μ := fun H locs ls hW hS h => by
  rw [E.1]
  exact W.widen hc hs (W.zret (ty := ty) C.exec C.code (C.rt.trans hrt) hn (fun t ht hw => ⟨⟨rfl, by rw [ht]; exact ⟨hW.1, C.ok.2.2.2.1 _ _ _ hw.alike hW.2⟩⟩, by unfold va_F; rw [ht]; exact ⟨hS.1, hS.2.1⟩⟩) hS.2.2 hd C.locks)
theorem g_lret (C : Cx l Z ex X cc own nL (some .long)) {x : Int64} (E : Ex Z X d mc ms (some (.long x)) Z μ) (hc : cells ≤ mc) (hs : slots ≤ ms) (hd : decode cc pc = .ok (.lreturn, 1)) : G Z X nL cells slots pc lv [.long x] μ := fun H locs ls hW hS h => by
  rw [E.1]
  exact W.widen hc hs (W.lret C.exec C.code C.rt (fun t ht hw => ⟨⟨rfl, by rw [ht]; exact ⟨hW.1, C.ok.2.2.2.1 _ _ _ hw.alike hW.2⟩⟩, by unfold va_F; rw [ht]; exact ⟨hS.1, hS.2.1⟩⟩) hS.2.2 hd C.locks)
theorem g_vret (C : Cx l Z ex X cc own nL none) (E : Ex Z X d mc ms none Z μ) (hc : cells ≤ mc) (hs : slots ≤ ms) (hd : decode cc pc = .ok (.return_, 1)) : G Z X nL cells slots pc lv [] μ := fun H locs ls hW hS h => by
  rw [E.1]
  exact W.widen hc hs (W.vret C.exec C.code C.rt (fun t ht hw => ⟨⟨rfl, by rw [ht]; exact ⟨hW.1, C.ok.2.2.2.1 _ _ _ hw.alike hW.2⟩⟩, by unfold va_F; rw [ht]; exact ⟨hS.1, hS.2.1⟩⟩) hS.2.2 hd C.locks)
theorem g_aret (C : Cx l Z ex X cc own nL ret) {v : Value} {rt : FieldType} (E : Ex Z X d mc ms (some v) Z μ) (hrt : ret = some rt) (ho : ∃ n, rt = .object n) (hv : v = .null ∨ ∃ a, v = .ref a) (hc : cells ≤ mc) (hs : slots ≤ ms) (hd : decode cc pc = .ok (.areturn, 1)) : G Z X nL cells slots pc lv [v] μ := fun H locs ls hW hS h => by
  rw [E.1]
  exact W.widen hc hs (W.aret C.exec C.code (C.rt.trans hrt) (Or.inl ho) hv (fun t ht hw => ⟨⟨rfl, by rw [ht]; exact ⟨hW.1, C.ok.2.2.2.1 _ _ _ hw.alike hW.2⟩⟩, by unfold va_F; rw [ht]; exact ⟨hS.1, hS.2.1⟩⟩) hS.2.2 hd C.locks)
/-- a call behind which the memory is μ' -/
theorem ga_call (C : Cx l Z ex X cc own nL ret) {H : Heap} {locs : List Loc} {ls : Array Slot} {st0 : List Value} {a : Array Value} {mc1 ms1 : Nat} (hW : Wd Z μ (xs X) H) (hS : va_S (AA Z) (xs X).heap H locs) (hl : lv_has ls nL lv)
    (hr : va_Run (xp X) (xl X) (xe X) (xR X) (xs X) (xm X) (xa X) (xb X) (xh X) (xc X) H locs cells slots mc1 ms1 (F0 (xm X) pc ls st0) rest (Qc0 Z o μ' a) (AA Z)) (k : G Z X nL (cells + mc1) (slots + ms1) (pc + 3) lv (o.toList ++ rest) μ') :
    W (xp X) (xl X) (xe X) (xR X) (xs X) (xm X) (xa X) (xb X) (xh X) (xc X) H locs cells slots (xQ X) (F0 (xm X) pc ls st0) := by
  intro T hT X1
  obtain ⟨v, st₀, t, T', L, h0, X', hL, e1, e2, ⟨⟨hv, hb⟩, hz, hk⟩, st⟩ := hr T hT X1
  cases hv
  rw [h0] at hz hk
  have hS1 : va_S (AA Z) (xs X).heap T'.heap (locs ++ L) := ⟨Nat.le_trans hS.1 (by rw [e1]; exact hz), fun q h1 h2 => by rw [e1, hk q (Nat.lt_of_lt_of_le h1 hS.1) h2]; exact hS.2.1 q h1 h2, fun q hq => by
      rcases List.mem_append.mp hq with h | h
      · exact hS.2.2 q h
      · exact hL q h⟩
  have hW1 : Wd Z μ' (xs X) T'.heap := by
    rw [e1]
    exact ⟨hb.1, C.ok.2.2.2.1 _ _ _ (Vm.Alike.symm (by rw [← e2]; exact X'.warmed.alike)) hb.2⟩
  obtain ⟨t2, a1, b1⟩ := k T'.heap (locs ++ L) ls hW1 hS1 hl T' rfl X'
  exact ⟨t2, st t2 a1, b1⟩
theorem pc0_at (C : Cx l Z ex X cc own nL ret) {H : Heap} {av : List Value} {locs : List Loc} (hW : Wd Z μ (xs X) H) (hS : va_S (AA Z) (xs X).heap H locs) : ∀ U : State, U.heap = H → (xs X).WarmedH U.vm → va_Pc av (Pc0 Z false μ) av.toArray U := fun U hU hw =>
  ⟨rfl, by rw [hU]; exact ⟨hW.1, C.ok.2.2.2.1 _ _ _ hw.alike hW.2⟩, ⟨va_K.moved hw.alike C.K, C.nw.warm hw⟩, C.ok, by rw [hU]; exact Nat.le_trans C.b hS.1, fun q => by cases q⟩
theorem g_callV (C : Cx l Z ex X cc own nL ret) (E : xR X = rmm d mc ms) {y : MethodName} {bytes : ByteArray} {maxL N d1 mc1 ms1 index b ci : Nat} {rt : Option FieldType} {CN : String} {T : u_T} {As st0 : List Value} (n : Nat) (hM : CtM l Z false y bytes maxL rt d1 mc1 ms1 (.ref (za Z b) :: As) μ o Z μ') (m1 : Cond.methodLink own index y ∈ TB) (mm : Cond.instanceMethod y ∈ TB ∧ Cond.selects CN y y ∈ TB ∧ Cond.initialized CN ∈ TB ∧ Cond.code y bytes maxL rt ∈ TB)
    (hd1 : y.cls = CN ∧ y.cls ≠ "java/lang/invoke/MethodHandle" ∧ y.cls ≠ "java/lang/invoke/VarHandle" ∧ (parseMethodDescriptor y.desc).map (fun d => d.parameters.length) = some n) (hn : As.length = n) (hR : d1 + 1 ≤ d ∧ maxL + 19 + 37 * d1 ≤ 37 * d) (hb : (zk Z b).1 = ci) (hci : ci < 7) (hcl : vwCl[ci]? = some (CN, T, N)) (hst : st0 = As.reverse ++ .ref (za Z b) :: rest)
    (hro : (rest.map fun v => v.category).sum ≤ 8) (hcs : cells + mc1 ≤ mc ∧ slots + ms1 ≤ ms) (hdg : decode cc pc = .ok (.invokevirtual index, 3)) (k : G Z X nL (cells + mc1) (slots + ms1) (pc + 3) lv (o.toList ++ rest) μ') : G Z X nL cells slots pc lv st0 μ := by
  subst hst
  intro H locs ls hW hS h
  have hM' : Met (xl X) y (Cond.code y bytes maxL rt :: TB) (rmm d1 mc1 ms1) (va_Pc (.ref (za Z b) :: As) (Pc0 Z false μ)) (Qc0 Z o μ') mc1 ms1 (AA Z) := by rw [C.ln]; exact hM
  refine ga_call (μ := μ) C hW hS h (va_runV (C := CN) (b := za Z b) (As := As) (rest := rest) C.fix hM' (cwV n C.ts (goodV m1 mm.1 mm.2.1 mm.2.2.1 mm.2.2.2) rfl rfl rfl hd1 (by rw [E]; exact ⟨hR.1, by show 8 + (maxL + 11) + 37 * d1 ≤ 37 * d; omega⟩)) ⟨pc0_blind, va_recv (q := (CN, T, N)) C.K hW.1 hcl (wl_get (zk_lt C.ok hb (by omega)) |>.trans (by rw [ce_obj hb hci])), pc0_at C hW hS⟩ rfl hn h.1 rfl (lv_room hro) hdg (by rw [E]; exact hcs)) k
theorem g_callS (C : Cx l Z ex X cc own nL ret) (E : xR X = rmm d mc ms) {y : MethodName} {bytes : ByteArray} {maxL d1 mc1 ms1 index : Nat} {rt : Option FieldType} {As st0 : List Value} (n : Nat) (hM : CtM l Z false y bytes maxL rt d1 mc1 ms1 As μ o Z μ') (m1 : Cond.methodLink own index y ∈ TB) (mm : Cond.static y ∈ TB ∧ Cond.initialized y.cls ∈ TB ∧ Cond.code y bytes maxL rt ∈ TB)
    (hd1 : y.cls ≠ "java/lang/invoke/MethodHandle" ∧ y.cls ≠ "java/lang/invoke/VarHandle" ∧ (parseMethodDescriptor y.desc).map (fun d => d.parameters.length) = some n) (hn : As.length = n) (hR : d1 + 1 ≤ d ∧ maxL + 19 + 37 * d1 ≤ 37 * d) (hst : st0 = As.reverse ++ rest)
    (hro : (rest.map fun v => v.category).sum ≤ 8) (hcs : cells + mc1 ≤ mc ∧ slots + ms1 ≤ ms) (hdg : decode cc pc = .ok (.invokestatic index, 3)) (k : G Z X nL (cells + mc1) (slots + ms1) (pc + 3) lv (o.toList ++ rest) μ') : G Z X nL cells slots pc lv st0 μ := by
  subst hst
  intro H locs ls hW hS h
  have hM' : Met (xl X) y (Cond.code y bytes maxL rt :: TB) (rmm d1 mc1 ms1) (va_Pc As (Pc0 Z false μ)) (Qc0 Z o μ') mc1 ms1 (AA Z) := by rw [C.ln]; exact hM
  refine ga_call (μ := μ) C hW hS h (va_runS (As := As) (rest := rest) C.fix hM' (va_cwS n C.ts (goodS m1 mm.1 mm.2.1 mm.2.2) rfl rfl rfl hd1 (by rw [E]; exact ⟨hR.1, by show 8 + (maxL + 11) + 37 * d1 ≤ 37 * d; omega⟩)) ⟨pc0_blind, pc0_at C hW hS⟩ rfl hn h.1 rfl (lv_room hro) hdg (by rw [E]; exact hcs)) k
theorem g_nmi {x y : Int32} (e : x = y) (k : G Z X nL cells slots pc lv (.int x :: rest) μ) : G Z X nL cells slots pc lv (.int y :: rest) μ := e ▸ k
theorem g_nml {x y : Int64} (e : x = y) (k : G Z X nL cells slots pc lv (.long x :: rest) μ) : G Z X nL cells slots pc lv (.long y :: rest) μ := e ▸ k
theorem g_copy (C : Cx l Z ex X cc own nL ret) (E : xR X = rmm d mc ms) {a0 a index : Nat} {sp dp n : Int32} (h0 : (zk Z a0).1 = 8) (h1 : (zk Z a).1 = 8) (hg : okc sp dp n (zk Z a0).2 (zk Z a).2) (hfr : 1 ≤ d) (hlo : (rest.map fun v => v.category).sum + (nativeFrameWords "java/lang/System" "arraycopy" 5 + 11) ≤ 37 * d)
    (w1 : (Cond.methodLink own index arraycopyName).before (xa X) (xs X) = true) (w2 : (Cond.native arraycopyName).before (xa X) (xs X) = true) (w3 : (Cond.static arraycopyName).before (xa X) (xs X) = true) (w4 : (Cond.initialized "java/lang/System").before (xa X) (xs X) = true)
    (he : μ' = sIr μ a (va_cpy (μ.1 a0) (μ.1 a) (ix sp) (ix dp) (ix n))) (hd : decode cc pc = .ok (.invokestatic index, 3)) (k : G Z X nL cells slots (pc + 3) lv rest μ') : G Z X nL cells slots pc lv (.int n :: .int dp :: .ref (za Z a) :: .int sp :: .ref (za Z a0) :: rest) μ := by
  subst he
  intro H locs ls hW hS h
  have hlt0 := zk_lt C.ok h0 (by omega)
  have hlt := zk_lt C.ok h1 (by omega)
  refine va_copyi C.exec C.code (C.ml.trans h.1.symm) C.ow w1 w2 w3 w4 C.K hW.1 (wl_D C.ok μ) hS a0 a 1 1 (wl_get hlt0 |>.trans (by rw [ce_int h0])) (wl_get hlt |>.trans (by rw [ce_int h1])) rfl rfl rfl hg.1 hg.2.1 hg.2.2.1 hg.2.2.2.1 hg.2.2.2.2 (fun _ _ => rfl) (by rw [E]; exact hfr) (by rw [E]; exact hlo) hd (fun H1 locs1 hP1 hD1 hS1 => ?_)
  rw [wl_set (μ' := sIr μ a (va_cpy (μ.1 a0) (μ.1 a) (ix sp) (ix dp) (ix n))) hlt (by rw [ce_int h1]; show _ = Sum.inl (_, _, Sum.inl (upR _ _ _ _)); rw [upR_self]) (fun b hb => ce_sIr hb)] at hP1
  exact k H1 locs1 ls (wd_put C hW hS hS1 hP1) hS1 h
theorem g_mmin (C : Cx l Z ex X cc own nL ret) (E : xR X = rmm d mc ms) {index : Nat} {x y : Int32} (w1 : (Cond.methodLink own index Lib.Math.min.name).before (xa X) (xs X) = true) (w2 : (Cond.static Lib.Math.min.name).before (xa X) (xs X) = true) (w3 : (Cond.initialized "java/lang/Math").before (xa X) (xs X) = true) (w4 : (Cond.code Lib.Math.min.name Lib.Math.min.code 2 (some .int)).before (xa X) (xs X) = true)
    (hfr : 1 ≤ d) (hlo : (rest.map fun v => v.category).sum + 13 ≤ 37 * d) (hc : cells ≤ mc) (hs : slots ≤ ms) (hd : decode cc pc = .ok (.invokestatic index, 3)) (k : G Z X nL cells slots (pc + 3) lv (.int (if y < x then y else x) :: rest) μ) : G Z X nL cells slots pc lv (.int y :: .int x :: rest) μ := fun H locs ls hW hS h =>
  va_mmin C.exec C.code (C.ml.trans h.1.symm) C.ow w1 w2 w3 w4 (by rw [E]; exact hfr) (by rw [E]; exact hlo) (by rw [E]; exact hc) (by rw [E]; exact hs) hd (k H locs ls hW hS h)
theorem br0 (x : Int32) (h : x = 0 ∨ x = 1) : narrow .boolean (.int x) = .int x := by rcases h with rfl | rfl <;> rfl
def FU : Nat := 5000
theorem dk {cc : ByteArray} {L : List (Nat × Instr × Nat)} (h : ∀ q ∈ L, decode cc q.1 = .ok q.2) (i : Nat) {pc : Nat} {r : Instr × Nat} (e : L[i]? = some (pc, r)) : decode cc pc = .ok r := by
  have h1 := h (pc, r) (List.mem_of_getElem? e)
  exact h1
theorem sw_out {x : Int32} {lo hi : Int} (h : ∀ k : Int, lo ≤ k → k ≤ hi → ¬ x.toInt = k) : x.toInt < lo ∨ hi < x.toInt := by
  by_cases h1 : x.toInt < lo
  · exact Or.inl h1
  · by_cases h2 : hi < x.toInt
    · exact Or.inr h2
    · exact absurd rfl (h x.toInt (by omega) (by omega))
theorem gR_0_0 (C : Cx l Z ex X cc own nL ret) {index b : Nat} {r : Nat}  (hb : (zk Z b).1 = 0) (hlink : (Cond.fieldLink own index RX1 "bytes" "[C").before (xa X) (xs X) = true) (hr : μ.2.1 b 0 = some r) (hd : decode cc pc = .ok (.getfield index, 3)) (k : G Z X nL cells slots (pc + 3) lv (.ref (za Z r) :: rest) μ) : G Z X nL cells slots pc lv (.ref (za Z b) :: rest) μ := g_getf C inTX1 (c := 0) rfl (by decide) hb 0 (by decide) hlink (v := rv Z μ b 0) rfl hd (by show G Z X nL cells slots (pc + 3) lv (va_rf ((μ.2.1 b 0).map (za Z)) :: rest) μ; rw [hr]; exact k)
theorem gRN_0_0 (C : Cx l Z ex X cc own nL ret) {index b : Nat} {r : Nat}  (hb : (zk Z b).1 = 0) (hlink : (Cond.fieldLinkNest own index RX1 "bytes" "[C" "WornDots").before (xa X) (xs X) = true) (hr : μ.2.1 b 0 = some r) (hd : decode cc pc = .ok (.getfield index, 3)) (k : G Z X nL cells slots (pc + 3) lv (.ref (za Z r) :: rest) μ) : G Z X nL cells slots pc lv (.ref (za Z b) :: rest) μ := g_getfN C inTX1 (c := 0) rfl (by decide) hb 0 (by decide) hlink (v := rv Z μ b 0) rfl hd (by show G Z X nL cells slots (pc + 3) lv (va_rf ((μ.2.1 b 0).map (za Z)) :: rest) μ; rw [hr]; exact k)
theorem pF_0_0 (C : Cx l Z ex X cc own nL ret) {index b : Nat} {r : Nat}  (hb : (zk Z b).1 = 0) (hlink : (Cond.fieldLink own index RX1 "bytes" "[C").before (xa X) (xs X) = true) (hini : (xh X).name = "<init>") (hdecl : RX1 = own) (he : μ' = sR μ b 0 (some r)) (hd : decode cc pc = .ok (.putfield index, 3)) (k : G Z X nL cells slots (pc + 3) lv rest μ') : G Z X nL cells slots pc lv (.ref (za Z r) :: .ref (za Z b) :: rest) μ := g_putRF C inTX1 tyX1_ok nmX1 (c := 0) rfl (by decide) rfl hb 0 (by decide) hlink rfl hini hdecl rfl rfl fR_0_0 he hd k
theorem gI_0_1 (C : Cx l Z ex X cc own nL ret) {index b : Nat}  (hb : (zk Z b).1 = 0) (hlink : (Cond.fieldLink own index RX1 "length" "I").before (xa X) (xs X) = true) (hd : decode cc pc = .ok (.getfield index, 3)) (k : G Z X nL cells slots (pc + 3) lv (.int (μ.1 b 1) :: rest) μ) : G Z X nL cells slots pc lv (.ref (za Z b) :: rest) μ := g_getf C inTX1 (c := 0) rfl (by decide) hb 1 (by decide) hlink (v := iv μ b 1) rfl hd k
theorem gIN_0_1 (C : Cx l Z ex X cc own nL ret) {index b : Nat}  (hb : (zk Z b).1 = 0) (hlink : (Cond.fieldLinkNest own index RX1 "length" "I" "WornDots").before (xa X) (xs X) = true) (hd : decode cc pc = .ok (.getfield index, 3)) (k : G Z X nL cells slots (pc + 3) lv (.int (μ.1 b 1) :: rest) μ) : G Z X nL cells slots pc lv (.ref (za Z b) :: rest) μ := g_getfN C inTX1 (c := 0) rfl (by decide) hb 1 (by decide) hlink (v := iv μ b 1) rfl hd k
theorem pI_0_1 (C : Cx l Z ex X cc own nL ret) {index b : Nat} {v : Int32}  (hb : (zk Z b).1 = 0) (hlink : (Cond.fieldLink own index RX1 "length" "I").before (xa X) (xs X) = true) (he : μ' = sI μ b 1 v) (hd : decode cc pc = .ok (.putfield index, 3)) (k : G Z X nL cells slots (pc + 3) lv rest μ') : G Z X nL cells slots pc lv (.int v :: .ref (za Z b) :: rest) μ := g_putI C inTX1 tyX1_ok nmX1 (c := 0) rfl (by decide) rfl hb 1 (by decide) hlink rfl rfl rfl fI_0_1 he hd k
theorem pIN_0_1 (C : Cx l Z ex X cc own nL ret) {index b : Nat} {v : Int32}  (hb : (zk Z b).1 = 0) (hlink : (Cond.fieldLinkNest own index RX1 "length" "I" "WornDots").before (xa X) (xs X) = true) (he : μ' = sI μ b 1 v) (hd : decode cc pc = .ok (.putfield index, 3)) (k : G Z X nL cells slots (pc + 3) lv rest μ') : G Z X nL cells slots pc lv (.int v :: .ref (za Z b) :: rest) μ := g_putIN C inTX1 tyX1_ok nmX1 (c := 0) rfl (by decide) rfl hb 1 (by decide) hlink rfl rfl rfl fI_0_1 he hd k
theorem gI_0_2 (C : Cx l Z ex X cc own nL ret) {index b : Nat}  (hb : (zk Z b).1 = 0) (hlink : (Cond.fieldLink own index RX1 "place" "I").before (xa X) (xs X) = true) (hd : decode cc pc = .ok (.getfield index, 3)) (k : G Z X nL cells slots (pc + 3) lv (.int (μ.1 b 2) :: rest) μ) : G Z X nL cells slots pc lv (.ref (za Z b) :: rest) μ := g_getf C inTX1 (c := 0) rfl (by decide) hb 2 (by decide) hlink (v := iv μ b 2) rfl hd k
theorem gIN_0_2 (C : Cx l Z ex X cc own nL ret) {index b : Nat}  (hb : (zk Z b).1 = 0) (hlink : (Cond.fieldLinkNest own index RX1 "place" "I" "WornDots").before (xa X) (xs X) = true) (hd : decode cc pc = .ok (.getfield index, 3)) (k : G Z X nL cells slots (pc + 3) lv (.int (μ.1 b 2) :: rest) μ) : G Z X nL cells slots pc lv (.ref (za Z b) :: rest) μ := g_getfN C inTX1 (c := 0) rfl (by decide) hb 2 (by decide) hlink (v := iv μ b 2) rfl hd k
theorem pI_0_2 (C : Cx l Z ex X cc own nL ret) {index b : Nat} {v : Int32}  (hb : (zk Z b).1 = 0) (hlink : (Cond.fieldLink own index RX1 "place" "I").before (xa X) (xs X) = true) (he : μ' = sI μ b 2 v) (hd : decode cc pc = .ok (.putfield index, 3)) (k : G Z X nL cells slots (pc + 3) lv rest μ') : G Z X nL cells slots pc lv (.int v :: .ref (za Z b) :: rest) μ := g_putI C inTX1 tyX1_ok nmX1 (c := 0) rfl (by decide) rfl hb 2 (by decide) hlink rfl rfl rfl fI_0_2 he hd k
theorem pIN_0_2 (C : Cx l Z ex X cc own nL ret) {index b : Nat} {v : Int32}  (hb : (zk Z b).1 = 0) (hlink : (Cond.fieldLinkNest own index RX1 "place" "I" "WornDots").before (xa X) (xs X) = true) (he : μ' = sI μ b 2 v) (hd : decode cc pc = .ok (.putfield index, 3)) (k : G Z X nL cells slots (pc + 3) lv rest μ') : G Z X nL cells slots pc lv (.int v :: .ref (za Z b) :: rest) μ := g_putIN C inTX1 tyX1_ok nmX1 (c := 0) rfl (by decide) rfl hb 2 (by decide) hlink rfl rfl rfl fI_0_2 he hd k
theorem gI_0_3 (C : Cx l Z ex X cc own nL ret) {index b : Nat}  (hb : (zk Z b).1 = 0) (hlink : (Cond.fieldLink own index RX1 "fault" "I").before (xa X) (xs X) = true) (hd : decode cc pc = .ok (.getfield index, 3)) (k : G Z X nL cells slots (pc + 3) lv (.int (μ.1 b 3) :: rest) μ) : G Z X nL cells slots pc lv (.ref (za Z b) :: rest) μ := g_getf C inTX1 (c := 0) rfl (by decide) hb 3 (by decide) hlink (v := iv μ b 3) rfl hd k
theorem gIN_0_3 (C : Cx l Z ex X cc own nL ret) {index b : Nat}  (hb : (zk Z b).1 = 0) (hlink : (Cond.fieldLinkNest own index RX1 "fault" "I" "WornDots").before (xa X) (xs X) = true) (hd : decode cc pc = .ok (.getfield index, 3)) (k : G Z X nL cells slots (pc + 3) lv (.int (μ.1 b 3) :: rest) μ) : G Z X nL cells slots pc lv (.ref (za Z b) :: rest) μ := g_getfN C inTX1 (c := 0) rfl (by decide) hb 3 (by decide) hlink (v := iv μ b 3) rfl hd k
theorem pI_0_3 (C : Cx l Z ex X cc own nL ret) {index b : Nat} {v : Int32}  (hb : (zk Z b).1 = 0) (hlink : (Cond.fieldLink own index RX1 "fault" "I").before (xa X) (xs X) = true) (he : μ' = sI μ b 3 v) (hd : decode cc pc = .ok (.putfield index, 3)) (k : G Z X nL cells slots (pc + 3) lv rest μ') : G Z X nL cells slots pc lv (.int v :: .ref (za Z b) :: rest) μ := g_putI C inTX1 tyX1_ok nmX1 (c := 0) rfl (by decide) rfl hb 3 (by decide) hlink rfl rfl rfl fI_0_3 he hd k
theorem pIN_0_3 (C : Cx l Z ex X cc own nL ret) {index b : Nat} {v : Int32}  (hb : (zk Z b).1 = 0) (hlink : (Cond.fieldLinkNest own index RX1 "fault" "I" "WornDots").before (xa X) (xs X) = true) (he : μ' = sI μ b 3 v) (hd : decode cc pc = .ok (.putfield index, 3)) (k : G Z X nL cells slots (pc + 3) lv rest μ') : G Z X nL cells slots pc lv (.int v :: .ref (za Z b) :: rest) μ := g_putIN C inTX1 tyX1_ok nmX1 (c := 0) rfl (by decide) rfl hb 3 (by decide) hlink rfl rfl rfl fI_0_3 he hd k
theorem gR_0_4 (C : Cx l Z ex X cc own nL ret) {index b : Nat} {r : Nat}  (hb : (zk Z b).1 = 0) (hlink : (Cond.fieldLink own index RX1 "word" "LWornDots$Word;").before (xa X) (xs X) = true) (hr : μ.2.1 b 4 = some r) (hd : decode cc pc = .ok (.getfield index, 3)) (k : G Z X nL cells slots (pc + 3) lv (.ref (za Z r) :: rest) μ) : G Z X nL cells slots pc lv (.ref (za Z b) :: rest) μ := g_getf C inTX1 (c := 0) rfl (by decide) hb 4 (by decide) hlink (v := rv Z μ b 4) rfl hd (by show G Z X nL cells slots (pc + 3) lv (va_rf ((μ.2.1 b 4).map (za Z)) :: rest) μ; rw [hr]; exact k)
theorem gRN_0_4 (C : Cx l Z ex X cc own nL ret) {index b : Nat} {r : Nat}  (hb : (zk Z b).1 = 0) (hlink : (Cond.fieldLinkNest own index RX1 "word" "LWornDots$Word;" "WornDots").before (xa X) (xs X) = true) (hr : μ.2.1 b 4 = some r) (hd : decode cc pc = .ok (.getfield index, 3)) (k : G Z X nL cells slots (pc + 3) lv (.ref (za Z r) :: rest) μ) : G Z X nL cells slots pc lv (.ref (za Z b) :: rest) μ := g_getfN C inTX1 (c := 0) rfl (by decide) hb 4 (by decide) hlink (v := rv Z μ b 4) rfl hd (by show G Z X nL cells slots (pc + 3) lv (va_rf ((μ.2.1 b 4).map (za Z)) :: rest) μ; rw [hr]; exact k)
theorem pR_0_4 (C : Cx l Z ex X cc own nL ret) {index b : Nat} {r : Nat}  (hb : (zk Z b).1 = 0) (hlink : (Cond.fieldLink own index RX1 "word" "LWornDots$Word;").before (xa X) (xs X) = true) (he : μ' = sR μ b 4 (some r)) (hd : decode cc pc = .ok (.putfield index, 3)) (k : G Z X nL cells slots (pc + 3) lv rest μ') : G Z X nL cells slots pc lv (.ref (za Z r) :: .ref (za Z b) :: rest) μ := g_putR C inTX1 tyX1_ok nmX1 (c := 0) rfl (by decide) rfl hb 4 (by decide) hlink rfl rfl rfl fR_0_4 he hd k
theorem gR_0_5 (C : Cx l Z ex X cc own nL ret) {index b : Nat} {r : Nat}  (hb : (zk Z b).1 = 0) (hlink : (Cond.fieldLink own index RX1 "numbers" "[I").before (xa X) (xs X) = true) (hr : μ.2.1 b 5 = some r) (hd : decode cc pc = .ok (.getfield index, 3)) (k : G Z X nL cells slots (pc + 3) lv (.ref (za Z r) :: rest) μ) : G Z X nL cells slots pc lv (.ref (za Z b) :: rest) μ := g_getf C inTX1 (c := 0) rfl (by decide) hb 5 (by decide) hlink (v := rv Z μ b 5) rfl hd (by show G Z X nL cells slots (pc + 3) lv (va_rf ((μ.2.1 b 5).map (za Z)) :: rest) μ; rw [hr]; exact k)
theorem gRN_0_5 (C : Cx l Z ex X cc own nL ret) {index b : Nat} {r : Nat}  (hb : (zk Z b).1 = 0) (hlink : (Cond.fieldLinkNest own index RX1 "numbers" "[I" "WornDots").before (xa X) (xs X) = true) (hr : μ.2.1 b 5 = some r) (hd : decode cc pc = .ok (.getfield index, 3)) (k : G Z X nL cells slots (pc + 3) lv (.ref (za Z r) :: rest) μ) : G Z X nL cells slots pc lv (.ref (za Z b) :: rest) μ := g_getfN C inTX1 (c := 0) rfl (by decide) hb 5 (by decide) hlink (v := rv Z μ b 5) rfl hd (by show G Z X nL cells slots (pc + 3) lv (va_rf ((μ.2.1 b 5).map (za Z)) :: rest) μ; rw [hr]; exact k)
theorem pF_0_5 (C : Cx l Z ex X cc own nL ret) {index b : Nat} {r : Nat}  (hb : (zk Z b).1 = 0) (hlink : (Cond.fieldLink own index RX1 "numbers" "[I").before (xa X) (xs X) = true) (hini : (xh X).name = "<init>") (hdecl : RX1 = own) (he : μ' = sR μ b 5 (some r)) (hd : decode cc pc = .ok (.putfield index, 3)) (k : G Z X nL cells slots (pc + 3) lv rest μ') : G Z X nL cells slots pc lv (.ref (za Z r) :: .ref (za Z b) :: rest) μ := g_putRF C inTX1 tyX1_ok nmX1 (c := 0) rfl (by decide) rfl hb 5 (by decide) hlink rfl hini hdecl rfl rfl fR_0_5 he hd k
theorem gI_1_0 (C : Cx l Z ex X cc own nL ret) {index b : Nat}  (hb : (zk Z b).1 = 1) (hlink : (Cond.fieldLink own index RX2 "first" "I").before (xa X) (xs X) = true) (hd : decode cc pc = .ok (.getfield index, 3)) (k : G Z X nL cells slots (pc + 3) lv (.int (μ.1 b 0) :: rest) μ) : G Z X nL cells slots pc lv (.ref (za Z b) :: rest) μ := g_getf C inTX2 (c := 1) rfl (by decide) hb 0 (by decide) hlink (v := iv μ b 0) rfl hd k
theorem gIN_1_0 (C : Cx l Z ex X cc own nL ret) {index b : Nat}  (hb : (zk Z b).1 = 1) (hlink : (Cond.fieldLinkNest own index RX2 "first" "I" "WornDots").before (xa X) (xs X) = true) (hd : decode cc pc = .ok (.getfield index, 3)) (k : G Z X nL cells slots (pc + 3) lv (.int (μ.1 b 0) :: rest) μ) : G Z X nL cells slots pc lv (.ref (za Z b) :: rest) μ := g_getfN C inTX2 (c := 1) rfl (by decide) hb 0 (by decide) hlink (v := iv μ b 0) rfl hd k
theorem pI_1_0 (C : Cx l Z ex X cc own nL ret) {index b : Nat} {v : Int32}  (hb : (zk Z b).1 = 1) (hlink : (Cond.fieldLink own index RX2 "first" "I").before (xa X) (xs X) = true) (he : μ' = sI μ b 0 v) (hd : decode cc pc = .ok (.putfield index, 3)) (k : G Z X nL cells slots (pc + 3) lv rest μ') : G Z X nL cells slots pc lv (.int v :: .ref (za Z b) :: rest) μ := g_putI C inTX2 tyX2_ok nmX2 (c := 1) rfl (by decide) rfl hb 0 (by decide) hlink rfl rfl rfl fI_1_0 he hd k
theorem pIN_1_0 (C : Cx l Z ex X cc own nL ret) {index b : Nat} {v : Int32}  (hb : (zk Z b).1 = 1) (hlink : (Cond.fieldLinkNest own index RX2 "first" "I" "WornDots").before (xa X) (xs X) = true) (he : μ' = sI μ b 0 v) (hd : decode cc pc = .ok (.putfield index, 3)) (k : G Z X nL cells slots (pc + 3) lv rest μ') : G Z X nL cells slots pc lv (.int v :: .ref (za Z b) :: rest) μ := g_putIN C inTX2 tyX2_ok nmX2 (c := 1) rfl (by decide) rfl hb 0 (by decide) hlink rfl rfl rfl fI_1_0 he hd k
theorem gI_1_1 (C : Cx l Z ex X cc own nL ret) {index b : Nat}  (hb : (zk Z b).1 = 1) (hlink : (Cond.fieldLink own index RX2 "last" "I").before (xa X) (xs X) = true) (hd : decode cc pc = .ok (.getfield index, 3)) (k : G Z X nL cells slots (pc + 3) lv (.int (μ.1 b 1) :: rest) μ) : G Z X nL cells slots pc lv (.ref (za Z b) :: rest) μ := g_getf C inTX2 (c := 1) rfl (by decide) hb 1 (by decide) hlink (v := iv μ b 1) rfl hd k
theorem gIN_1_1 (C : Cx l Z ex X cc own nL ret) {index b : Nat}  (hb : (zk Z b).1 = 1) (hlink : (Cond.fieldLinkNest own index RX2 "last" "I" "WornDots").before (xa X) (xs X) = true) (hd : decode cc pc = .ok (.getfield index, 3)) (k : G Z X nL cells slots (pc + 3) lv (.int (μ.1 b 1) :: rest) μ) : G Z X nL cells slots pc lv (.ref (za Z b) :: rest) μ := g_getfN C inTX2 (c := 1) rfl (by decide) hb 1 (by decide) hlink (v := iv μ b 1) rfl hd k
theorem pI_1_1 (C : Cx l Z ex X cc own nL ret) {index b : Nat} {v : Int32}  (hb : (zk Z b).1 = 1) (hlink : (Cond.fieldLink own index RX2 "last" "I").before (xa X) (xs X) = true) (he : μ' = sI μ b 1 v) (hd : decode cc pc = .ok (.putfield index, 3)) (k : G Z X nL cells slots (pc + 3) lv rest μ') : G Z X nL cells slots pc lv (.int v :: .ref (za Z b) :: rest) μ := g_putI C inTX2 tyX2_ok nmX2 (c := 1) rfl (by decide) rfl hb 1 (by decide) hlink rfl rfl rfl fI_1_1 he hd k
theorem pIN_1_1 (C : Cx l Z ex X cc own nL ret) {index b : Nat} {v : Int32}  (hb : (zk Z b).1 = 1) (hlink : (Cond.fieldLinkNest own index RX2 "last" "I" "WornDots").before (xa X) (xs X) = true) (he : μ' = sI μ b 1 v) (hd : decode cc pc = .ok (.putfield index, 3)) (k : G Z X nL cells slots (pc + 3) lv rest μ') : G Z X nL cells slots pc lv (.int v :: .ref (za Z b) :: rest) μ := g_putIN C inTX2 tyX2_ok nmX2 (c := 1) rfl (by decide) rfl hb 1 (by decide) hlink rfl rfl rfl fI_1_1 he hd k
theorem gI_1_2 (C : Cx l Z ex X cc own nL ret) {index b : Nat}  (hb : (zk Z b).1 = 1) (hlink : (Cond.fieldLink own index RX2 "paid" "I").before (xa X) (xs X) = true) (hd : decode cc pc = .ok (.getfield index, 3)) (k : G Z X nL cells slots (pc + 3) lv (.int (μ.1 b 2) :: rest) μ) : G Z X nL cells slots pc lv (.ref (za Z b) :: rest) μ := g_getf C inTX2 (c := 1) rfl (by decide) hb 2 (by decide) hlink (v := iv μ b 2) rfl hd k
theorem gIN_1_2 (C : Cx l Z ex X cc own nL ret) {index b : Nat}  (hb : (zk Z b).1 = 1) (hlink : (Cond.fieldLinkNest own index RX2 "paid" "I" "WornDots").before (xa X) (xs X) = true) (hd : decode cc pc = .ok (.getfield index, 3)) (k : G Z X nL cells slots (pc + 3) lv (.int (μ.1 b 2) :: rest) μ) : G Z X nL cells slots pc lv (.ref (za Z b) :: rest) μ := g_getfN C inTX2 (c := 1) rfl (by decide) hb 2 (by decide) hlink (v := iv μ b 2) rfl hd k
theorem pI_1_2 (C : Cx l Z ex X cc own nL ret) {index b : Nat} {v : Int32}  (hb : (zk Z b).1 = 1) (hlink : (Cond.fieldLink own index RX2 "paid" "I").before (xa X) (xs X) = true) (he : μ' = sI μ b 2 v) (hd : decode cc pc = .ok (.putfield index, 3)) (k : G Z X nL cells slots (pc + 3) lv rest μ') : G Z X nL cells slots pc lv (.int v :: .ref (za Z b) :: rest) μ := g_putI C inTX2 tyX2_ok nmX2 (c := 1) rfl (by decide) rfl hb 2 (by decide) hlink rfl rfl rfl fI_1_2 he hd k
theorem pIN_1_2 (C : Cx l Z ex X cc own nL ret) {index b : Nat} {v : Int32}  (hb : (zk Z b).1 = 1) (hlink : (Cond.fieldLinkNest own index RX2 "paid" "I" "WornDots").before (xa X) (xs X) = true) (he : μ' = sI μ b 2 v) (hd : decode cc pc = .ok (.putfield index, 3)) (k : G Z X nL cells slots (pc + 3) lv rest μ') : G Z X nL cells slots pc lv (.int v :: .ref (za Z b) :: rest) μ := g_putIN C inTX2 tyX2_ok nmX2 (c := 1) rfl (by decide) rfl hb 2 (by decide) hlink rfl rfl rfl fI_1_2 he hd k
theorem gI_1_3 (C : Cx l Z ex X cc own nL ret) {index b : Nat}  (hb : (zk Z b).1 = 1) (hlink : (Cond.fieldLink own index RX2 "paidBack" "I").before (xa X) (xs X) = true) (hd : decode cc pc = .ok (.getfield index, 3)) (k : G Z X nL cells slots (pc + 3) lv (.int (μ.1 b 3) :: rest) μ) : G Z X nL cells slots pc lv (.ref (za Z b) :: rest) μ := g_getf C inTX2 (c := 1) rfl (by decide) hb 3 (by decide) hlink (v := iv μ b 3) rfl hd k
theorem gIN_1_3 (C : Cx l Z ex X cc own nL ret) {index b : Nat}  (hb : (zk Z b).1 = 1) (hlink : (Cond.fieldLinkNest own index RX2 "paidBack" "I" "WornDots").before (xa X) (xs X) = true) (hd : decode cc pc = .ok (.getfield index, 3)) (k : G Z X nL cells slots (pc + 3) lv (.int (μ.1 b 3) :: rest) μ) : G Z X nL cells slots pc lv (.ref (za Z b) :: rest) μ := g_getfN C inTX2 (c := 1) rfl (by decide) hb 3 (by decide) hlink (v := iv μ b 3) rfl hd k
theorem pI_1_3 (C : Cx l Z ex X cc own nL ret) {index b : Nat} {v : Int32}  (hb : (zk Z b).1 = 1) (hlink : (Cond.fieldLink own index RX2 "paidBack" "I").before (xa X) (xs X) = true) (he : μ' = sI μ b 3 v) (hd : decode cc pc = .ok (.putfield index, 3)) (k : G Z X nL cells slots (pc + 3) lv rest μ') : G Z X nL cells slots pc lv (.int v :: .ref (za Z b) :: rest) μ := g_putI C inTX2 tyX2_ok nmX2 (c := 1) rfl (by decide) rfl hb 3 (by decide) hlink rfl rfl rfl fI_1_3 he hd k
theorem pIN_1_3 (C : Cx l Z ex X cc own nL ret) {index b : Nat} {v : Int32}  (hb : (zk Z b).1 = 1) (hlink : (Cond.fieldLinkNest own index RX2 "paidBack" "I" "WornDots").before (xa X) (xs X) = true) (he : μ' = sI μ b 3 v) (hd : decode cc pc = .ok (.putfield index, 3)) (k : G Z X nL cells slots (pc + 3) lv rest μ') : G Z X nL cells slots pc lv (.int v :: .ref (za Z b) :: rest) μ := g_putIN C inTX2 tyX2_ok nmX2 (c := 1) rfl (by decide) rfl hb 3 (by decide) hlink rfl rfl rfl fI_1_3 he hd k
theorem gI_1_4 (C : Cx l Z ex X cc own nL ret) {index b : Nat}  (hb : (zk Z b).1 = 1) (hlink : (Cond.fieldLink own index RX2 "printed" "I").before (xa X) (xs X) = true) (hd : decode cc pc = .ok (.getfield index, 3)) (k : G Z X nL cells slots (pc + 3) lv (.int (μ.1 b 4) :: rest) μ) : G Z X nL cells slots pc lv (.ref (za Z b) :: rest) μ := g_getf C inTX2 (c := 1) rfl (by decide) hb 4 (by decide) hlink (v := iv μ b 4) rfl hd k
theorem gIN_1_4 (C : Cx l Z ex X cc own nL ret) {index b : Nat}  (hb : (zk Z b).1 = 1) (hlink : (Cond.fieldLinkNest own index RX2 "printed" "I" "WornDots").before (xa X) (xs X) = true) (hd : decode cc pc = .ok (.getfield index, 3)) (k : G Z X nL cells slots (pc + 3) lv (.int (μ.1 b 4) :: rest) μ) : G Z X nL cells slots pc lv (.ref (za Z b) :: rest) μ := g_getfN C inTX2 (c := 1) rfl (by decide) hb 4 (by decide) hlink (v := iv μ b 4) rfl hd k
theorem pI_1_4 (C : Cx l Z ex X cc own nL ret) {index b : Nat} {v : Int32}  (hb : (zk Z b).1 = 1) (hlink : (Cond.fieldLink own index RX2 "printed" "I").before (xa X) (xs X) = true) (he : μ' = sI μ b 4 v) (hd : decode cc pc = .ok (.putfield index, 3)) (k : G Z X nL cells slots (pc + 3) lv rest μ') : G Z X nL cells slots pc lv (.int v :: .ref (za Z b) :: rest) μ := g_putI C inTX2 tyX2_ok nmX2 (c := 1) rfl (by decide) rfl hb 4 (by decide) hlink rfl rfl rfl fI_1_4 he hd k
theorem pIN_1_4 (C : Cx l Z ex X cc own nL ret) {index b : Nat} {v : Int32}  (hb : (zk Z b).1 = 1) (hlink : (Cond.fieldLinkNest own index RX2 "printed" "I" "WornDots").before (xa X) (xs X) = true) (he : μ' = sI μ b 4 v) (hd : decode cc pc = .ok (.putfield index, 3)) (k : G Z X nL cells slots (pc + 3) lv rest μ') : G Z X nL cells slots pc lv (.int v :: .ref (za Z b) :: rest) μ := g_putIN C inTX2 tyX2_ok nmX2 (c := 1) rfl (by decide) rfl hb 4 (by decide) hlink rfl rfl rfl fI_1_4 he hd k
theorem gI_1_5 (C : Cx l Z ex X cc own nL ret) {index b : Nat}  (hb : (zk Z b).1 = 1) (hlink : (Cond.fieldLink own index RX2 "failed" "I").before (xa X) (xs X) = true) (hd : decode cc pc = .ok (.getfield index, 3)) (k : G Z X nL cells slots (pc + 3) lv (.int (μ.1 b 5) :: rest) μ) : G Z X nL cells slots pc lv (.ref (za Z b) :: rest) μ := g_getf C inTX2 (c := 1) rfl (by decide) hb 5 (by decide) hlink (v := iv μ b 5) rfl hd k
theorem gIN_1_5 (C : Cx l Z ex X cc own nL ret) {index b : Nat}  (hb : (zk Z b).1 = 1) (hlink : (Cond.fieldLinkNest own index RX2 "failed" "I" "WornDots").before (xa X) (xs X) = true) (hd : decode cc pc = .ok (.getfield index, 3)) (k : G Z X nL cells slots (pc + 3) lv (.int (μ.1 b 5) :: rest) μ) : G Z X nL cells slots pc lv (.ref (za Z b) :: rest) μ := g_getfN C inTX2 (c := 1) rfl (by decide) hb 5 (by decide) hlink (v := iv μ b 5) rfl hd k
theorem pI_1_5 (C : Cx l Z ex X cc own nL ret) {index b : Nat} {v : Int32}  (hb : (zk Z b).1 = 1) (hlink : (Cond.fieldLink own index RX2 "failed" "I").before (xa X) (xs X) = true) (he : μ' = sI μ b 5 v) (hd : decode cc pc = .ok (.putfield index, 3)) (k : G Z X nL cells slots (pc + 3) lv rest μ') : G Z X nL cells slots pc lv (.int v :: .ref (za Z b) :: rest) μ := g_putI C inTX2 tyX2_ok nmX2 (c := 1) rfl (by decide) rfl hb 5 (by decide) hlink rfl rfl rfl fI_1_5 he hd k
theorem pIN_1_5 (C : Cx l Z ex X cc own nL ret) {index b : Nat} {v : Int32}  (hb : (zk Z b).1 = 1) (hlink : (Cond.fieldLinkNest own index RX2 "failed" "I" "WornDots").before (xa X) (xs X) = true) (he : μ' = sI μ b 5 v) (hd : decode cc pc = .ok (.putfield index, 3)) (k : G Z X nL cells slots (pc + 3) lv rest μ') : G Z X nL cells slots pc lv (.int v :: .ref (za Z b) :: rest) μ := g_putIN C inTX2 tyX2_ok nmX2 (c := 1) rfl (by decide) rfl hb 5 (by decide) hlink rfl rfl rfl fI_1_5 he hd k
theorem gI_2_0 (C : Cx l Z ex X cc own nL ret) {index b : Nat}  (hb : (zk Z b).1 = 2) (hlink : (Cond.fieldLink own index RX3 "dots" "I").before (xa X) (xs X) = true) (hd : decode cc pc = .ok (.getfield index, 3)) (k : G Z X nL cells slots (pc + 3) lv (.int (μ.1 b 0) :: rest) μ) : G Z X nL cells slots pc lv (.ref (za Z b) :: rest) μ := g_getf C inTX3 (c := 2) rfl (by decide) hb 0 (by decide) hlink (v := iv μ b 0) rfl hd k
theorem gIN_2_0 (C : Cx l Z ex X cc own nL ret) {index b : Nat}  (hb : (zk Z b).1 = 2) (hlink : (Cond.fieldLinkNest own index RX3 "dots" "I" "WornDots").before (xa X) (xs X) = true) (hd : decode cc pc = .ok (.getfield index, 3)) (k : G Z X nL cells slots (pc + 3) lv (.int (μ.1 b 0) :: rest) μ) : G Z X nL cells slots pc lv (.ref (za Z b) :: rest) μ := g_getfN C inTX3 (c := 2) rfl (by decide) hb 0 (by decide) hlink (v := iv μ b 0) rfl hd k
theorem pI_2_0 (C : Cx l Z ex X cc own nL ret) {index b : Nat} {v : Int32}  (hb : (zk Z b).1 = 2) (hlink : (Cond.fieldLink own index RX3 "dots" "I").before (xa X) (xs X) = true) (he : μ' = sI μ b 0 v) (hd : decode cc pc = .ok (.putfield index, 3)) (k : G Z X nL cells slots (pc + 3) lv rest μ') : G Z X nL cells slots pc lv (.int v :: .ref (za Z b) :: rest) μ := g_putI C inTX3 tyX3_ok nmX3 (c := 2) rfl (by decide) rfl hb 0 (by decide) hlink rfl rfl rfl fI_2_0 he hd k
theorem pIN_2_0 (C : Cx l Z ex X cc own nL ret) {index b : Nat} {v : Int32}  (hb : (zk Z b).1 = 2) (hlink : (Cond.fieldLinkNest own index RX3 "dots" "I" "WornDots").before (xa X) (xs X) = true) (he : μ' = sI μ b 0 v) (hd : decode cc pc = .ok (.putfield index, 3)) (k : G Z X nL cells slots (pc + 3) lv rest μ') : G Z X nL cells slots pc lv (.int v :: .ref (za Z b) :: rest) μ := g_putIN C inTX3 tyX3_ok nmX3 (c := 2) rfl (by decide) rfl hb 0 (by decide) hlink rfl rfl rfl fI_2_0 he hd k
theorem gI_2_1 (C : Cx l Z ex X cc own nL ret) {index b : Nat}  (hb : (zk Z b).1 = 2) (hlink : (Cond.fieldLink own index RX3 "burntInAll" "I").before (xa X) (xs X) = true) (hd : decode cc pc = .ok (.getfield index, 3)) (k : G Z X nL cells slots (pc + 3) lv (.int (μ.1 b 1) :: rest) μ) : G Z X nL cells slots pc lv (.ref (za Z b) :: rest) μ := g_getf C inTX3 (c := 2) rfl (by decide) hb 1 (by decide) hlink (v := iv μ b 1) rfl hd k
theorem gIN_2_1 (C : Cx l Z ex X cc own nL ret) {index b : Nat}  (hb : (zk Z b).1 = 2) (hlink : (Cond.fieldLinkNest own index RX3 "burntInAll" "I" "WornDots").before (xa X) (xs X) = true) (hd : decode cc pc = .ok (.getfield index, 3)) (k : G Z X nL cells slots (pc + 3) lv (.int (μ.1 b 1) :: rest) μ) : G Z X nL cells slots pc lv (.ref (za Z b) :: rest) μ := g_getfN C inTX3 (c := 2) rfl (by decide) hb 1 (by decide) hlink (v := iv μ b 1) rfl hd k
theorem pI_2_1 (C : Cx l Z ex X cc own nL ret) {index b : Nat} {v : Int32}  (hb : (zk Z b).1 = 2) (hlink : (Cond.fieldLink own index RX3 "burntInAll" "I").before (xa X) (xs X) = true) (he : μ' = sI μ b 1 v) (hd : decode cc pc = .ok (.putfield index, 3)) (k : G Z X nL cells slots (pc + 3) lv rest μ') : G Z X nL cells slots pc lv (.int v :: .ref (za Z b) :: rest) μ := g_putI C inTX3 tyX3_ok nmX3 (c := 2) rfl (by decide) rfl hb 1 (by decide) hlink rfl rfl rfl fI_2_1 he hd k
theorem pIN_2_1 (C : Cx l Z ex X cc own nL ret) {index b : Nat} {v : Int32}  (hb : (zk Z b).1 = 2) (hlink : (Cond.fieldLinkNest own index RX3 "burntInAll" "I" "WornDots").before (xa X) (xs X) = true) (he : μ' = sI μ b 1 v) (hd : decode cc pc = .ok (.putfield index, 3)) (k : G Z X nL cells slots (pc + 3) lv rest μ') : G Z X nL cells slots pc lv (.int v :: .ref (za Z b) :: rest) μ := g_putIN C inTX3 tyX3_ok nmX3 (c := 2) rfl (by decide) rfl hb 1 (by decide) hlink rfl rfl rfl fI_2_1 he hd k
theorem gR_2_2 (C : Cx l Z ex X cc own nL ret) {index b : Nat} {r : Nat}  (hb : (zk Z b).1 = 2) (hlink : (Cond.fieldLink own index RX3 "heat" "[I").before (xa X) (xs X) = true) (hr : μ.2.1 b 2 = some r) (hd : decode cc pc = .ok (.getfield index, 3)) (k : G Z X nL cells slots (pc + 3) lv (.ref (za Z r) :: rest) μ) : G Z X nL cells slots pc lv (.ref (za Z b) :: rest) μ := g_getf C inTX3 (c := 2) rfl (by decide) hb 2 (by decide) hlink (v := rv Z μ b 2) rfl hd (by show G Z X nL cells slots (pc + 3) lv (va_rf ((μ.2.1 b 2).map (za Z)) :: rest) μ; rw [hr]; exact k)
theorem gRN_2_2 (C : Cx l Z ex X cc own nL ret) {index b : Nat} {r : Nat}  (hb : (zk Z b).1 = 2) (hlink : (Cond.fieldLinkNest own index RX3 "heat" "[I" "WornDots").before (xa X) (xs X) = true) (hr : μ.2.1 b 2 = some r) (hd : decode cc pc = .ok (.getfield index, 3)) (k : G Z X nL cells slots (pc + 3) lv (.ref (za Z r) :: rest) μ) : G Z X nL cells slots pc lv (.ref (za Z b) :: rest) μ := g_getfN C inTX3 (c := 2) rfl (by decide) hb 2 (by decide) hlink (v := rv Z μ b 2) rfl hd (by show G Z X nL cells slots (pc + 3) lv (va_rf ((μ.2.1 b 2).map (za Z)) :: rest) μ; rw [hr]; exact k)
theorem pF_2_2 (C : Cx l Z ex X cc own nL ret) {index b : Nat} {r : Nat}  (hb : (zk Z b).1 = 2) (hlink : (Cond.fieldLink own index RX3 "heat" "[I").before (xa X) (xs X) = true) (hini : (xh X).name = "<init>") (hdecl : RX3 = own) (he : μ' = sR μ b 2 (some r)) (hd : decode cc pc = .ok (.putfield index, 3)) (k : G Z X nL cells slots (pc + 3) lv rest μ') : G Z X nL cells slots pc lv (.ref (za Z r) :: .ref (za Z b) :: rest) μ := g_putRF C inTX3 tyX3_ok nmX3 (c := 2) rfl (by decide) rfl hb 2 (by decide) hlink rfl hini hdecl rfl rfl fR_2_2 he hd k
theorem gR_2_3 (C : Cx l Z ex X cc own nL ret) {index b : Nat} {r : Nat}  (hb : (zk Z b).1 = 2) (hlink : (Cond.fieldLink own index RX3 "wear" "[I").before (xa X) (xs X) = true) (hr : μ.2.1 b 3 = some r) (hd : decode cc pc = .ok (.getfield index, 3)) (k : G Z X nL cells slots (pc + 3) lv (.ref (za Z r) :: rest) μ) : G Z X nL cells slots pc lv (.ref (za Z b) :: rest) μ := g_getf C inTX3 (c := 2) rfl (by decide) hb 3 (by decide) hlink (v := rv Z μ b 3) rfl hd (by show G Z X nL cells slots (pc + 3) lv (va_rf ((μ.2.1 b 3).map (za Z)) :: rest) μ; rw [hr]; exact k)
theorem gRN_2_3 (C : Cx l Z ex X cc own nL ret) {index b : Nat} {r : Nat}  (hb : (zk Z b).1 = 2) (hlink : (Cond.fieldLinkNest own index RX3 "wear" "[I" "WornDots").before (xa X) (xs X) = true) (hr : μ.2.1 b 3 = some r) (hd : decode cc pc = .ok (.getfield index, 3)) (k : G Z X nL cells slots (pc + 3) lv (.ref (za Z r) :: rest) μ) : G Z X nL cells slots pc lv (.ref (za Z b) :: rest) μ := g_getfN C inTX3 (c := 2) rfl (by decide) hb 3 (by decide) hlink (v := rv Z μ b 3) rfl hd (by show G Z X nL cells slots (pc + 3) lv (va_rf ((μ.2.1 b 3).map (za Z)) :: rest) μ; rw [hr]; exact k)
theorem pF_2_3 (C : Cx l Z ex X cc own nL ret) {index b : Nat} {r : Nat}  (hb : (zk Z b).1 = 2) (hlink : (Cond.fieldLink own index RX3 "wear" "[I").before (xa X) (xs X) = true) (hini : (xh X).name = "<init>") (hdecl : RX3 = own) (he : μ' = sR μ b 3 (some r)) (hd : decode cc pc = .ok (.putfield index, 3)) (k : G Z X nL cells slots (pc + 3) lv rest μ') : G Z X nL cells slots pc lv (.ref (za Z r) :: .ref (za Z b) :: rest) μ := g_putRF C inTX3 tyX3_ok nmX3 (c := 2) rfl (by decide) rfl hb 3 (by decide) hlink rfl hini hdecl rfl rfl fR_2_3 he hd k
theorem gR_2_4 (C : Cx l Z ex X cc own nL ret) {index b : Nat} {r : Nat}  (hb : (zk Z b).1 = 2) (hlink : (Cond.fieldLink own index RX3 "burnt" "[I").before (xa X) (xs X) = true) (hr : μ.2.1 b 4 = some r) (hd : decode cc pc = .ok (.getfield index, 3)) (k : G Z X nL cells slots (pc + 3) lv (.ref (za Z r) :: rest) μ) : G Z X nL cells slots pc lv (.ref (za Z b) :: rest) μ := g_getf C inTX3 (c := 2) rfl (by decide) hb 4 (by decide) hlink (v := rv Z μ b 4) rfl hd (by show G Z X nL cells slots (pc + 3) lv (va_rf ((μ.2.1 b 4).map (za Z)) :: rest) μ; rw [hr]; exact k)
theorem gRN_2_4 (C : Cx l Z ex X cc own nL ret) {index b : Nat} {r : Nat}  (hb : (zk Z b).1 = 2) (hlink : (Cond.fieldLinkNest own index RX3 "burnt" "[I" "WornDots").before (xa X) (xs X) = true) (hr : μ.2.1 b 4 = some r) (hd : decode cc pc = .ok (.getfield index, 3)) (k : G Z X nL cells slots (pc + 3) lv (.ref (za Z r) :: rest) μ) : G Z X nL cells slots pc lv (.ref (za Z b) :: rest) μ := g_getfN C inTX3 (c := 2) rfl (by decide) hb 4 (by decide) hlink (v := rv Z μ b 4) rfl hd (by show G Z X nL cells slots (pc + 3) lv (va_rf ((μ.2.1 b 4).map (za Z)) :: rest) μ; rw [hr]; exact k)
theorem pF_2_4 (C : Cx l Z ex X cc own nL ret) {index b : Nat} {r : Nat}  (hb : (zk Z b).1 = 2) (hlink : (Cond.fieldLink own index RX3 "burnt" "[I").before (xa X) (xs X) = true) (hini : (xh X).name = "<init>") (hdecl : RX3 = own) (he : μ' = sR μ b 4 (some r)) (hd : decode cc pc = .ok (.putfield index, 3)) (k : G Z X nL cells slots (pc + 3) lv rest μ') : G Z X nL cells slots pc lv (.ref (za Z r) :: .ref (za Z b) :: rest) μ := g_putRF C inTX3 tyX3_ok nmX3 (c := 2) rfl (by decide) rfl hb 4 (by decide) hlink rfl hini hdecl rfl rfl fR_2_4 he hd k
theorem gI_3_0 (C : Cx l Z ex X cc own nL ret) {index b : Nat}  (hb : (zk Z b).1 = 3) (hlink : (Cond.fieldLink own index RX4 "width" "I").before (xa X) (xs X) = true) (hd : decode cc pc = .ok (.getfield index, 3)) (k : G Z X nL cells slots (pc + 3) lv (.int (μ.1 b 0) :: rest) μ) : G Z X nL cells slots pc lv (.ref (za Z b) :: rest) μ := g_getf C inTX4 (c := 3) rfl (by decide) hb 0 (by decide) hlink (v := iv μ b 0) rfl hd k
theorem gIN_3_0 (C : Cx l Z ex X cc own nL ret) {index b : Nat}  (hb : (zk Z b).1 = 3) (hlink : (Cond.fieldLinkNest own index RX4 "width" "I" "WornDots").before (xa X) (xs X) = true) (hd : decode cc pc = .ok (.getfield index, 3)) (k : G Z X nL cells slots (pc + 3) lv (.int (μ.1 b 0) :: rest) μ) : G Z X nL cells slots pc lv (.ref (za Z b) :: rest) μ := g_getfN C inTX4 (c := 3) rfl (by decide) hb 0 (by decide) hlink (v := iv μ b 0) rfl hd k
theorem pI_3_0 (C : Cx l Z ex X cc own nL ret) {index b : Nat} {v : Int32}  (hb : (zk Z b).1 = 3) (hlink : (Cond.fieldLink own index RX4 "width" "I").before (xa X) (xs X) = true) (he : μ' = sI μ b 0 v) (hd : decode cc pc = .ok (.putfield index, 3)) (k : G Z X nL cells slots (pc + 3) lv rest μ') : G Z X nL cells slots pc lv (.int v :: .ref (za Z b) :: rest) μ := g_putI C inTX4 tyX4_ok nmX4 (c := 3) rfl (by decide) rfl hb 0 (by decide) hlink rfl rfl rfl fI_3_0 he hd k
theorem pIN_3_0 (C : Cx l Z ex X cc own nL ret) {index b : Nat} {v : Int32}  (hb : (zk Z b).1 = 3) (hlink : (Cond.fieldLinkNest own index RX4 "width" "I" "WornDots").before (xa X) (xs X) = true) (he : μ' = sI μ b 0 v) (hd : decode cc pc = .ok (.putfield index, 3)) (k : G Z X nL cells slots (pc + 3) lv rest μ') : G Z X nL cells slots pc lv (.int v :: .ref (za Z b) :: rest) μ := g_putIN C inTX4 tyX4_ok nmX4 (c := 3) rfl (by decide) rfl hb 0 (by decide) hlink rfl rfl rfl fI_3_0 he hd k
theorem gI_3_1 (C : Cx l Z ex X cc own nL ret) {index b : Nat}  (hb : (zk Z b).1 = 3) (hlink : (Cond.fieldLink own index RX4 "blackness" "I").before (xa X) (xs X) = true) (hd : decode cc pc = .ok (.getfield index, 3)) (k : G Z X nL cells slots (pc + 3) lv (.int (μ.1 b 1) :: rest) μ) : G Z X nL cells slots pc lv (.ref (za Z b) :: rest) μ := g_getf C inTX4 (c := 3) rfl (by decide) hb 1 (by decide) hlink (v := iv μ b 1) rfl hd k
theorem gIN_3_1 (C : Cx l Z ex X cc own nL ret) {index b : Nat}  (hb : (zk Z b).1 = 3) (hlink : (Cond.fieldLinkNest own index RX4 "blackness" "I" "WornDots").before (xa X) (xs X) = true) (hd : decode cc pc = .ok (.getfield index, 3)) (k : G Z X nL cells slots (pc + 3) lv (.int (μ.1 b 1) :: rest) μ) : G Z X nL cells slots pc lv (.ref (za Z b) :: rest) μ := g_getfN C inTX4 (c := 3) rfl (by decide) hb 1 (by decide) hlink (v := iv μ b 1) rfl hd k
theorem pI_3_1 (C : Cx l Z ex X cc own nL ret) {index b : Nat} {v : Int32}  (hb : (zk Z b).1 = 3) (hlink : (Cond.fieldLink own index RX4 "blackness" "I").before (xa X) (xs X) = true) (he : μ' = sI μ b 1 v) (hd : decode cc pc = .ok (.putfield index, 3)) (k : G Z X nL cells slots (pc + 3) lv rest μ') : G Z X nL cells slots pc lv (.int v :: .ref (za Z b) :: rest) μ := g_putI C inTX4 tyX4_ok nmX4 (c := 3) rfl (by decide) rfl hb 1 (by decide) hlink rfl rfl rfl fI_3_1 he hd k
theorem pIN_3_1 (C : Cx l Z ex X cc own nL ret) {index b : Nat} {v : Int32}  (hb : (zk Z b).1 = 3) (hlink : (Cond.fieldLinkNest own index RX4 "blackness" "I" "WornDots").before (xa X) (xs X) = true) (he : μ' = sI μ b 1 v) (hd : decode cc pc = .ok (.putfield index, 3)) (k : G Z X nL cells slots (pc + 3) lv rest μ') : G Z X nL cells slots pc lv (.int v :: .ref (za Z b) :: rest) μ := g_putIN C inTX4 tyX4_ok nmX4 (c := 3) rfl (by decide) rfl hb 1 (by decide) hlink rfl rfl rfl fI_3_1 he hd k
theorem gI_3_2 (C : Cx l Z ex X cc own nL ret) {index b : Nat}  (hb : (zk Z b).1 = 3) (hlink : (Cond.fieldLink own index RX4 "printed" "I").before (xa X) (xs X) = true) (hd : decode cc pc = .ok (.getfield index, 3)) (k : G Z X nL cells slots (pc + 3) lv (.int (μ.1 b 2) :: rest) μ) : G Z X nL cells slots pc lv (.ref (za Z b) :: rest) μ := g_getf C inTX4 (c := 3) rfl (by decide) hb 2 (by decide) hlink (v := iv μ b 2) rfl hd k
theorem gIN_3_2 (C : Cx l Z ex X cc own nL ret) {index b : Nat}  (hb : (zk Z b).1 = 3) (hlink : (Cond.fieldLinkNest own index RX4 "printed" "I" "WornDots").before (xa X) (xs X) = true) (hd : decode cc pc = .ok (.getfield index, 3)) (k : G Z X nL cells slots (pc + 3) lv (.int (μ.1 b 2) :: rest) μ) : G Z X nL cells slots pc lv (.ref (za Z b) :: rest) μ := g_getfN C inTX4 (c := 3) rfl (by decide) hb 2 (by decide) hlink (v := iv μ b 2) rfl hd k
theorem pI_3_2 (C : Cx l Z ex X cc own nL ret) {index b : Nat} {v : Int32}  (hb : (zk Z b).1 = 3) (hlink : (Cond.fieldLink own index RX4 "printed" "I").before (xa X) (xs X) = true) (he : μ' = sI μ b 2 v) (hd : decode cc pc = .ok (.putfield index, 3)) (k : G Z X nL cells slots (pc + 3) lv rest μ') : G Z X nL cells slots pc lv (.int v :: .ref (za Z b) :: rest) μ := g_putI C inTX4 tyX4_ok nmX4 (c := 3) rfl (by decide) rfl hb 2 (by decide) hlink rfl rfl rfl fI_3_2 he hd k
theorem pIN_3_2 (C : Cx l Z ex X cc own nL ret) {index b : Nat} {v : Int32}  (hb : (zk Z b).1 = 3) (hlink : (Cond.fieldLinkNest own index RX4 "printed" "I" "WornDots").before (xa X) (xs X) = true) (he : μ' = sI μ b 2 v) (hd : decode cc pc = .ok (.putfield index, 3)) (k : G Z X nL cells slots (pc + 3) lv rest μ') : G Z X nL cells slots pc lv (.int v :: .ref (za Z b) :: rest) μ := g_putIN C inTX4 tyX4_ok nmX4 (c := 3) rfl (by decide) rfl hb 2 (by decide) hlink rfl rfl rfl fI_3_2 he hd k
theorem gI_3_3 (C : Cx l Z ex X cc own nL ret) {index b : Nat}  (hb : (zk Z b).1 = 3) (hlink : (Cond.fieldLink own index RX4 "failed" "I").before (xa X) (xs X) = true) (hd : decode cc pc = .ok (.getfield index, 3)) (k : G Z X nL cells slots (pc + 3) lv (.int (μ.1 b 3) :: rest) μ) : G Z X nL cells slots pc lv (.ref (za Z b) :: rest) μ := g_getf C inTX4 (c := 3) rfl (by decide) hb 3 (by decide) hlink (v := iv μ b 3) rfl hd k
theorem gIN_3_3 (C : Cx l Z ex X cc own nL ret) {index b : Nat}  (hb : (zk Z b).1 = 3) (hlink : (Cond.fieldLinkNest own index RX4 "failed" "I" "WornDots").before (xa X) (xs X) = true) (hd : decode cc pc = .ok (.getfield index, 3)) (k : G Z X nL cells slots (pc + 3) lv (.int (μ.1 b 3) :: rest) μ) : G Z X nL cells slots pc lv (.ref (za Z b) :: rest) μ := g_getfN C inTX4 (c := 3) rfl (by decide) hb 3 (by decide) hlink (v := iv μ b 3) rfl hd k
theorem pI_3_3 (C : Cx l Z ex X cc own nL ret) {index b : Nat} {v : Int32}  (hb : (zk Z b).1 = 3) (hlink : (Cond.fieldLink own index RX4 "failed" "I").before (xa X) (xs X) = true) (he : μ' = sI μ b 3 v) (hd : decode cc pc = .ok (.putfield index, 3)) (k : G Z X nL cells slots (pc + 3) lv rest μ') : G Z X nL cells slots pc lv (.int v :: .ref (za Z b) :: rest) μ := g_putI C inTX4 tyX4_ok nmX4 (c := 3) rfl (by decide) rfl hb 3 (by decide) hlink rfl rfl rfl fI_3_3 he hd k
theorem pIN_3_3 (C : Cx l Z ex X cc own nL ret) {index b : Nat} {v : Int32}  (hb : (zk Z b).1 = 3) (hlink : (Cond.fieldLinkNest own index RX4 "failed" "I" "WornDots").before (xa X) (xs X) = true) (he : μ' = sI μ b 3 v) (hd : decode cc pc = .ok (.putfield index, 3)) (k : G Z X nL cells slots (pc + 3) lv rest μ') : G Z X nL cells slots pc lv (.int v :: .ref (za Z b) :: rest) μ := g_putIN C inTX4 tyX4_ok nmX4 (c := 3) rfl (by decide) rfl hb 3 (by decide) hlink rfl rfl rfl fI_3_3 he hd k
theorem gR_3_4 (C : Cx l Z ex X cc own nL ret) {index b : Nat} {r : Nat}  (hb : (zk Z b).1 = 3) (hlink : (Cond.fieldLink own index RX4 "rows" "[I").before (xa X) (xs X) = true) (hr : μ.2.1 b 4 = some r) (hd : decode cc pc = .ok (.getfield index, 3)) (k : G Z X nL cells slots (pc + 3) lv (.ref (za Z r) :: rest) μ) : G Z X nL cells slots pc lv (.ref (za Z b) :: rest) μ := g_getf C inTX4 (c := 3) rfl (by decide) hb 4 (by decide) hlink (v := rv Z μ b 4) rfl hd (by show G Z X nL cells slots (pc + 3) lv (va_rf ((μ.2.1 b 4).map (za Z)) :: rest) μ; rw [hr]; exact k)
theorem gRN_3_4 (C : Cx l Z ex X cc own nL ret) {index b : Nat} {r : Nat}  (hb : (zk Z b).1 = 3) (hlink : (Cond.fieldLinkNest own index RX4 "rows" "[I" "WornDots").before (xa X) (xs X) = true) (hr : μ.2.1 b 4 = some r) (hd : decode cc pc = .ok (.getfield index, 3)) (k : G Z X nL cells slots (pc + 3) lv (.ref (za Z r) :: rest) μ) : G Z X nL cells slots pc lv (.ref (za Z b) :: rest) μ := g_getfN C inTX4 (c := 3) rfl (by decide) hb 4 (by decide) hlink (v := rv Z μ b 4) rfl hd (by show G Z X nL cells slots (pc + 3) lv (va_rf ((μ.2.1 b 4).map (za Z)) :: rest) μ; rw [hr]; exact k)
theorem pF_3_4 (C : Cx l Z ex X cc own nL ret) {index b : Nat} {r : Nat}  (hb : (zk Z b).1 = 3) (hlink : (Cond.fieldLink own index RX4 "rows" "[I").before (xa X) (xs X) = true) (hini : (xh X).name = "<init>") (hdecl : RX4 = own) (he : μ' = sR μ b 4 (some r)) (hd : decode cc pc = .ok (.putfield index, 3)) (k : G Z X nL cells slots (pc + 3) lv rest μ') : G Z X nL cells slots pc lv (.ref (za Z r) :: .ref (za Z b) :: rest) μ := g_putRF C inTX4 tyX4_ok nmX4 (c := 3) rfl (by decide) rfl hb 4 (by decide) hlink rfl hini hdecl rfl rfl fR_3_4 he hd k
theorem gR_4_0 (C : Cx l Z ex X cc own nL ret) {index b : Nat} {r : Nat}  (hb : (zk Z b).1 = 4) (hlink : (Cond.fieldLink own index RX5 "head" "LWornDots$Head;").before (xa X) (xs X) = true) (hr : μ.2.1 b 0 = some r) (hd : decode cc pc = .ok (.getfield index, 3)) (k : G Z X nL cells slots (pc + 3) lv (.ref (za Z r) :: rest) μ) : G Z X nL cells slots pc lv (.ref (za Z b) :: rest) μ := g_getf C inTX5 (c := 4) rfl (by decide) hb 0 (by decide) hlink (v := rv Z μ b 0) rfl hd (by show G Z X nL cells slots (pc + 3) lv (va_rf ((μ.2.1 b 0).map (za Z)) :: rest) μ; rw [hr]; exact k)
theorem gRN_4_0 (C : Cx l Z ex X cc own nL ret) {index b : Nat} {r : Nat}  (hb : (zk Z b).1 = 4) (hlink : (Cond.fieldLinkNest own index RX5 "head" "LWornDots$Head;" "WornDots").before (xa X) (xs X) = true) (hr : μ.2.1 b 0 = some r) (hd : decode cc pc = .ok (.getfield index, 3)) (k : G Z X nL cells slots (pc + 3) lv (.ref (za Z r) :: rest) μ) : G Z X nL cells slots pc lv (.ref (za Z b) :: rest) μ := g_getfN C inTX5 (c := 4) rfl (by decide) hb 0 (by decide) hlink (v := rv Z μ b 0) rfl hd (by show G Z X nL cells slots (pc + 3) lv (va_rf ((μ.2.1 b 0).map (za Z)) :: rest) μ; rw [hr]; exact k)
theorem pF_4_0 (C : Cx l Z ex X cc own nL ret) {index b : Nat} {r : Nat}  (hb : (zk Z b).1 = 4) (hlink : (Cond.fieldLink own index RX5 "head" "LWornDots$Head;").before (xa X) (xs X) = true) (hini : (xh X).name = "<init>") (hdecl : RX5 = own) (he : μ' = sR μ b 0 (some r)) (hd : decode cc pc = .ok (.putfield index, 3)) (k : G Z X nL cells slots (pc + 3) lv rest μ') : G Z X nL cells slots pc lv (.ref (za Z r) :: .ref (za Z b) :: rest) μ := g_putRF C inTX5 tyX5_ok nmX5 (c := 4) rfl (by decide) rfl hb 0 (by decide) hlink rfl hini hdecl rfl rfl fR_4_0 he hd k
theorem gR_4_1 (C : Cx l Z ex X cc own nL ret) {index b : Nat} {r : Nat}  (hb : (zk Z b).1 = 4) (hlink : (Cond.fieldLink own index RX5 "trial" "LWornDots$Head;").before (xa X) (xs X) = true) (hr : μ.2.1 b 1 = some r) (hd : decode cc pc = .ok (.getfield index, 3)) (k : G Z X nL cells slots (pc + 3) lv (.ref (za Z r) :: rest) μ) : G Z X nL cells slots pc lv (.ref (za Z b) :: rest) μ := g_getf C inTX5 (c := 4) rfl (by decide) hb 1 (by decide) hlink (v := rv Z μ b 1) rfl hd (by show G Z X nL cells slots (pc + 3) lv (va_rf ((μ.2.1 b 1).map (za Z)) :: rest) μ; rw [hr]; exact k)
theorem gRN_4_1 (C : Cx l Z ex X cc own nL ret) {index b : Nat} {r : Nat}  (hb : (zk Z b).1 = 4) (hlink : (Cond.fieldLinkNest own index RX5 "trial" "LWornDots$Head;" "WornDots").before (xa X) (xs X) = true) (hr : μ.2.1 b 1 = some r) (hd : decode cc pc = .ok (.getfield index, 3)) (k : G Z X nL cells slots (pc + 3) lv (.ref (za Z r) :: rest) μ) : G Z X nL cells slots pc lv (.ref (za Z b) :: rest) μ := g_getfN C inTX5 (c := 4) rfl (by decide) hb 1 (by decide) hlink (v := rv Z μ b 1) rfl hd (by show G Z X nL cells slots (pc + 3) lv (va_rf ((μ.2.1 b 1).map (za Z)) :: rest) μ; rw [hr]; exact k)
theorem pF_4_1 (C : Cx l Z ex X cc own nL ret) {index b : Nat} {r : Nat}  (hb : (zk Z b).1 = 4) (hlink : (Cond.fieldLink own index RX5 "trial" "LWornDots$Head;").before (xa X) (xs X) = true) (hini : (xh X).name = "<init>") (hdecl : RX5 = own) (he : μ' = sR μ b 1 (some r)) (hd : decode cc pc = .ok (.putfield index, 3)) (k : G Z X nL cells slots (pc + 3) lv rest μ') : G Z X nL cells slots pc lv (.ref (za Z r) :: .ref (za Z b) :: rest) μ := g_putRF C inTX5 tyX5_ok nmX5 (c := 4) rfl (by decide) rfl hb 1 (by decide) hlink rfl hini hdecl rfl rfl fR_4_1 he hd k
theorem gR_4_2 (C : Cx l Z ex X cc own nL ret) {index b : Nat} {r : Nat}  (hb : (zk Z b).1 = 4) (hlink : (Cond.fieldLink own index RX5 "settings" "[I").before (xa X) (xs X) = true) (hr : μ.2.1 b 2 = some r) (hd : decode cc pc = .ok (.getfield index, 3)) (k : G Z X nL cells slots (pc + 3) lv (.ref (za Z r) :: rest) μ) : G Z X nL cells slots pc lv (.ref (za Z b) :: rest) μ := g_getf C inTX5 (c := 4) rfl (by decide) hb 2 (by decide) hlink (v := rv Z μ b 2) rfl hd (by show G Z X nL cells slots (pc + 3) lv (va_rf ((μ.2.1 b 2).map (za Z)) :: rest) μ; rw [hr]; exact k)
theorem gRN_4_2 (C : Cx l Z ex X cc own nL ret) {index b : Nat} {r : Nat}  (hb : (zk Z b).1 = 4) (hlink : (Cond.fieldLinkNest own index RX5 "settings" "[I" "WornDots").before (xa X) (xs X) = true) (hr : μ.2.1 b 2 = some r) (hd : decode cc pc = .ok (.getfield index, 3)) (k : G Z X nL cells slots (pc + 3) lv (.ref (za Z r) :: rest) μ) : G Z X nL cells slots pc lv (.ref (za Z b) :: rest) μ := g_getfN C inTX5 (c := 4) rfl (by decide) hb 2 (by decide) hlink (v := rv Z μ b 2) rfl hd (by show G Z X nL cells slots (pc + 3) lv (va_rf ((μ.2.1 b 2).map (za Z)) :: rest) μ; rw [hr]; exact k)
theorem pF_4_2 (C : Cx l Z ex X cc own nL ret) {index b : Nat} {r : Nat}  (hb : (zk Z b).1 = 4) (hlink : (Cond.fieldLink own index RX5 "settings" "[I").before (xa X) (xs X) = true) (hini : (xh X).name = "<init>") (hdecl : RX5 = own) (he : μ' = sR μ b 2 (some r)) (hd : decode cc pc = .ok (.putfield index, 3)) (k : G Z X nL cells slots (pc + 3) lv rest μ') : G Z X nL cells slots pc lv (.ref (za Z r) :: .ref (za Z b) :: rest) μ := g_putRF C inTX5 tyX5_ok nmX5 (c := 4) rfl (by decide) rfl hb 2 (by decide) hlink rfl hini hdecl rfl rfl fR_4_2 he hd k
theorem gR_4_3 (C : Cx l Z ex X cc own nL ret) {index b : Nat} {r : Nat}  (hb : (zk Z b).1 = 4) (hlink : (Cond.fieldLink own index RX5 "labels" "[LWornDots$Label;").before (xa X) (xs X) = true) (hr : μ.2.1 b 3 = some r) (hd : decode cc pc = .ok (.getfield index, 3)) (k : G Z X nL cells slots (pc + 3) lv (.ref (za Z r) :: rest) μ) : G Z X nL cells slots pc lv (.ref (za Z b) :: rest) μ := g_getf C inTX5 (c := 4) rfl (by decide) hb 3 (by decide) hlink (v := rv Z μ b 3) rfl hd (by show G Z X nL cells slots (pc + 3) lv (va_rf ((μ.2.1 b 3).map (za Z)) :: rest) μ; rw [hr]; exact k)
theorem gRN_4_3 (C : Cx l Z ex X cc own nL ret) {index b : Nat} {r : Nat}  (hb : (zk Z b).1 = 4) (hlink : (Cond.fieldLinkNest own index RX5 "labels" "[LWornDots$Label;" "WornDots").before (xa X) (xs X) = true) (hr : μ.2.1 b 3 = some r) (hd : decode cc pc = .ok (.getfield index, 3)) (k : G Z X nL cells slots (pc + 3) lv (.ref (za Z r) :: rest) μ) : G Z X nL cells slots pc lv (.ref (za Z b) :: rest) μ := g_getfN C inTX5 (c := 4) rfl (by decide) hb 3 (by decide) hlink (v := rv Z μ b 3) rfl hd (by show G Z X nL cells slots (pc + 3) lv (va_rf ((μ.2.1 b 3).map (za Z)) :: rest) μ; rw [hr]; exact k)
theorem pF_4_3 (C : Cx l Z ex X cc own nL ret) {index b : Nat} {r : Nat}  (hb : (zk Z b).1 = 4) (hlink : (Cond.fieldLink own index RX5 "labels" "[LWornDots$Label;").before (xa X) (xs X) = true) (hini : (xh X).name = "<init>") (hdecl : RX5 = own) (he : μ' = sR μ b 3 (some r)) (hd : decode cc pc = .ok (.putfield index, 3)) (k : G Z X nL cells slots (pc + 3) lv rest μ') : G Z X nL cells slots pc lv (.ref (za Z r) :: .ref (za Z b) :: rest) μ := g_putRF C inTX5 tyX5_ok nmX5 (c := 4) rfl (by decide) rfl hb 3 (by decide) hlink rfl hini hdecl rfl rfl fR_4_3 he hd k
theorem gI_4_4 (C : Cx l Z ex X cc own nL ret) {index b : Nat}  (hb : (zk Z b).1 = 4) (hlink : (Cond.fieldLink own index RX5 "labelCount" "I").before (xa X) (xs X) = true) (hd : decode cc pc = .ok (.getfield index, 3)) (k : G Z X nL cells slots (pc + 3) lv (.int (μ.1 b 4) :: rest) μ) : G Z X nL cells slots pc lv (.ref (za Z b) :: rest) μ := g_getf C inTX5 (c := 4) rfl (by decide) hb 4 (by decide) hlink (v := iv μ b 4) rfl hd k
theorem gIN_4_4 (C : Cx l Z ex X cc own nL ret) {index b : Nat}  (hb : (zk Z b).1 = 4) (hlink : (Cond.fieldLinkNest own index RX5 "labelCount" "I" "WornDots").before (xa X) (xs X) = true) (hd : decode cc pc = .ok (.getfield index, 3)) (k : G Z X nL cells slots (pc + 3) lv (.int (μ.1 b 4) :: rest) μ) : G Z X nL cells slots pc lv (.ref (za Z b) :: rest) μ := g_getfN C inTX5 (c := 4) rfl (by decide) hb 4 (by decide) hlink (v := iv μ b 4) rfl hd k
theorem pI_4_4 (C : Cx l Z ex X cc own nL ret) {index b : Nat} {v : Int32}  (hb : (zk Z b).1 = 4) (hlink : (Cond.fieldLink own index RX5 "labelCount" "I").before (xa X) (xs X) = true) (he : μ' = sI μ b 4 v) (hd : decode cc pc = .ok (.putfield index, 3)) (k : G Z X nL cells slots (pc + 3) lv rest μ') : G Z X nL cells slots pc lv (.int v :: .ref (za Z b) :: rest) μ := g_putI C inTX5 tyX5_ok nmX5 (c := 4) rfl (by decide) rfl hb 4 (by decide) hlink rfl rfl rfl fI_4_4 he hd k
theorem pIN_4_4 (C : Cx l Z ex X cc own nL ret) {index b : Nat} {v : Int32}  (hb : (zk Z b).1 = 4) (hlink : (Cond.fieldLinkNest own index RX5 "labelCount" "I" "WornDots").before (xa X) (xs X) = true) (he : μ' = sI μ b 4 v) (hd : decode cc pc = .ok (.putfield index, 3)) (k : G Z X nL cells slots (pc + 3) lv rest μ') : G Z X nL cells slots pc lv (.int v :: .ref (za Z b) :: rest) μ := g_putIN C inTX5 tyX5_ok nmX5 (c := 4) rfl (by decide) rfl hb 4 (by decide) hlink rfl rfl rfl fI_4_4 he hd k
theorem gR_4_5 (C : Cx l Z ex X cc own nL ret) {index b : Nat} {r : Nat}  (hb : (zk Z b).1 = 4) (hlink : (Cond.fieldLink own index RX5 "customers" "[LWornDots$Customer;").before (xa X) (xs X) = true) (hr : μ.2.1 b 5 = some r) (hd : decode cc pc = .ok (.getfield index, 3)) (k : G Z X nL cells slots (pc + 3) lv (.ref (za Z r) :: rest) μ) : G Z X nL cells slots pc lv (.ref (za Z b) :: rest) μ := g_getf C inTX5 (c := 4) rfl (by decide) hb 5 (by decide) hlink (v := rv Z μ b 5) rfl hd (by show G Z X nL cells slots (pc + 3) lv (va_rf ((μ.2.1 b 5).map (za Z)) :: rest) μ; rw [hr]; exact k)
theorem gRN_4_5 (C : Cx l Z ex X cc own nL ret) {index b : Nat} {r : Nat}  (hb : (zk Z b).1 = 4) (hlink : (Cond.fieldLinkNest own index RX5 "customers" "[LWornDots$Customer;" "WornDots").before (xa X) (xs X) = true) (hr : μ.2.1 b 5 = some r) (hd : decode cc pc = .ok (.getfield index, 3)) (k : G Z X nL cells slots (pc + 3) lv (.ref (za Z r) :: rest) μ) : G Z X nL cells slots pc lv (.ref (za Z b) :: rest) μ := g_getfN C inTX5 (c := 4) rfl (by decide) hb 5 (by decide) hlink (v := rv Z μ b 5) rfl hd (by show G Z X nL cells slots (pc + 3) lv (va_rf ((μ.2.1 b 5).map (za Z)) :: rest) μ; rw [hr]; exact k)
theorem pF_4_5 (C : Cx l Z ex X cc own nL ret) {index b : Nat} {r : Nat}  (hb : (zk Z b).1 = 4) (hlink : (Cond.fieldLink own index RX5 "customers" "[LWornDots$Customer;").before (xa X) (xs X) = true) (hini : (xh X).name = "<init>") (hdecl : RX5 = own) (he : μ' = sR μ b 5 (some r)) (hd : decode cc pc = .ok (.putfield index, 3)) (k : G Z X nL cells slots (pc + 3) lv rest μ') : G Z X nL cells slots pc lv (.ref (za Z r) :: .ref (za Z b) :: rest) μ := g_putRF C inTX5 tyX5_ok nmX5 (c := 4) rfl (by decide) rfl hb 5 (by decide) hlink rfl hini hdecl rfl rfl fR_4_5 he hd k
theorem gI_4_6 (C : Cx l Z ex X cc own nL ret) {index b : Nat}  (hb : (zk Z b).1 = 4) (hlink : (Cond.fieldLink own index RX5 "customerCount" "I").before (xa X) (xs X) = true) (hd : decode cc pc = .ok (.getfield index, 3)) (k : G Z X nL cells slots (pc + 3) lv (.int (μ.1 b 6) :: rest) μ) : G Z X nL cells slots pc lv (.ref (za Z b) :: rest) μ := g_getf C inTX5 (c := 4) rfl (by decide) hb 6 (by decide) hlink (v := iv μ b 6) rfl hd k
theorem gIN_4_6 (C : Cx l Z ex X cc own nL ret) {index b : Nat}  (hb : (zk Z b).1 = 4) (hlink : (Cond.fieldLinkNest own index RX5 "customerCount" "I" "WornDots").before (xa X) (xs X) = true) (hd : decode cc pc = .ok (.getfield index, 3)) (k : G Z X nL cells slots (pc + 3) lv (.int (μ.1 b 6) :: rest) μ) : G Z X nL cells slots pc lv (.ref (za Z b) :: rest) μ := g_getfN C inTX5 (c := 4) rfl (by decide) hb 6 (by decide) hlink (v := iv μ b 6) rfl hd k
theorem pI_4_6 (C : Cx l Z ex X cc own nL ret) {index b : Nat} {v : Int32}  (hb : (zk Z b).1 = 4) (hlink : (Cond.fieldLink own index RX5 "customerCount" "I").before (xa X) (xs X) = true) (he : μ' = sI μ b 6 v) (hd : decode cc pc = .ok (.putfield index, 3)) (k : G Z X nL cells slots (pc + 3) lv rest μ') : G Z X nL cells slots pc lv (.int v :: .ref (za Z b) :: rest) μ := g_putI C inTX5 tyX5_ok nmX5 (c := 4) rfl (by decide) rfl hb 6 (by decide) hlink rfl rfl rfl fI_4_6 he hd k
theorem pIN_4_6 (C : Cx l Z ex X cc own nL ret) {index b : Nat} {v : Int32}  (hb : (zk Z b).1 = 4) (hlink : (Cond.fieldLinkNest own index RX5 "customerCount" "I" "WornDots").before (xa X) (xs X) = true) (he : μ' = sI μ b 6 v) (hd : decode cc pc = .ok (.putfield index, 3)) (k : G Z X nL cells slots (pc + 3) lv rest μ') : G Z X nL cells slots pc lv (.int v :: .ref (za Z b) :: rest) μ := g_putIN C inTX5 tyX5_ok nmX5 (c := 4) rfl (by decide) rfl hb 6 (by decide) hlink rfl rfl rfl fI_4_6 he hd k
theorem gI_4_7 (C : Cx l Z ex X cc own nL ret) {index b : Nat}  (hb : (zk Z b).1 = 4) (hlink : (Cond.fieldLink own index RX5 "lines" "I").before (xa X) (xs X) = true) (hd : decode cc pc = .ok (.getfield index, 3)) (k : G Z X nL cells slots (pc + 3) lv (.int (μ.1 b 7) :: rest) μ) : G Z X nL cells slots pc lv (.ref (za Z b) :: rest) μ := g_getf C inTX5 (c := 4) rfl (by decide) hb 7 (by decide) hlink (v := iv μ b 7) rfl hd k
theorem gIN_4_7 (C : Cx l Z ex X cc own nL ret) {index b : Nat}  (hb : (zk Z b).1 = 4) (hlink : (Cond.fieldLinkNest own index RX5 "lines" "I" "WornDots").before (xa X) (xs X) = true) (hd : decode cc pc = .ok (.getfield index, 3)) (k : G Z X nL cells slots (pc + 3) lv (.int (μ.1 b 7) :: rest) μ) : G Z X nL cells slots pc lv (.ref (za Z b) :: rest) μ := g_getfN C inTX5 (c := 4) rfl (by decide) hb 7 (by decide) hlink (v := iv μ b 7) rfl hd k
theorem pI_4_7 (C : Cx l Z ex X cc own nL ret) {index b : Nat} {v : Int32}  (hb : (zk Z b).1 = 4) (hlink : (Cond.fieldLink own index RX5 "lines" "I").before (xa X) (xs X) = true) (he : μ' = sI μ b 7 v) (hd : decode cc pc = .ok (.putfield index, 3)) (k : G Z X nL cells slots (pc + 3) lv rest μ') : G Z X nL cells slots pc lv (.int v :: .ref (za Z b) :: rest) μ := g_putI C inTX5 tyX5_ok nmX5 (c := 4) rfl (by decide) rfl hb 7 (by decide) hlink rfl rfl rfl fI_4_7 he hd k
theorem pIN_4_7 (C : Cx l Z ex X cc own nL ret) {index b : Nat} {v : Int32}  (hb : (zk Z b).1 = 4) (hlink : (Cond.fieldLinkNest own index RX5 "lines" "I" "WornDots").before (xa X) (xs X) = true) (he : μ' = sI μ b 7 v) (hd : decode cc pc = .ok (.putfield index, 3)) (k : G Z X nL cells slots (pc + 3) lv rest μ') : G Z X nL cells slots pc lv (.int v :: .ref (za Z b) :: rest) μ := g_putIN C inTX5 tyX5_ok nmX5 (c := 4) rfl (by decide) rfl hb 7 (by decide) hlink rfl rfl rfl fI_4_7 he hd k
theorem gR_5_0 (C : Cx l Z ex X cc own nL ret) {index b : Nat} {r : Nat}  (hb : (zk Z b).1 = 5) (hlink : (Cond.fieldLink own index RX7 "text" "LWornDots$CommandText;").before (xa X) (xs X) = true) (hr : μ.2.1 b 0 = some r) (hd : decode cc pc = .ok (.getfield index, 3)) (k : G Z X nL cells slots (pc + 3) lv (.ref (za Z r) :: rest) μ) : G Z X nL cells slots pc lv (.ref (za Z b) :: rest) μ := g_getf C inTX7 (c := 5) rfl (by decide) hb 0 (by decide) hlink (v := rv Z μ b 0) rfl hd (by show G Z X nL cells slots (pc + 3) lv (va_rf ((μ.2.1 b 0).map (za Z)) :: rest) μ; rw [hr]; exact k)
theorem gRN_5_0 (C : Cx l Z ex X cc own nL ret) {index b : Nat} {r : Nat}  (hb : (zk Z b).1 = 5) (hlink : (Cond.fieldLinkNest own index RX7 "text" "LWornDots$CommandText;" "WornDots").before (xa X) (xs X) = true) (hr : μ.2.1 b 0 = some r) (hd : decode cc pc = .ok (.getfield index, 3)) (k : G Z X nL cells slots (pc + 3) lv (.ref (za Z r) :: rest) μ) : G Z X nL cells slots pc lv (.ref (za Z b) :: rest) μ := g_getfN C inTX7 (c := 5) rfl (by decide) hb 0 (by decide) hlink (v := rv Z μ b 0) rfl hd (by show G Z X nL cells slots (pc + 3) lv (va_rf ((μ.2.1 b 0).map (za Z)) :: rest) μ; rw [hr]; exact k)
theorem pF_5_0 (C : Cx l Z ex X cc own nL ret) {index b : Nat} {r : Nat}  (hb : (zk Z b).1 = 5) (hlink : (Cond.fieldLink own index RX7 "text" "LWornDots$CommandText;").before (xa X) (xs X) = true) (hini : (xh X).name = "<init>") (hdecl : RX7 = own) (he : μ' = sR μ b 0 (some r)) (hd : decode cc pc = .ok (.putfield index, 3)) (k : G Z X nL cells slots (pc + 3) lv rest μ') : G Z X nL cells slots pc lv (.ref (za Z r) :: .ref (za Z b) :: rest) μ := g_putRF C inTX7 tyX7_ok nmX7 (c := 5) rfl (by decide) rfl hb 0 (by decide) hlink rfl hini hdecl rfl rfl fR_5_0 he hd k
theorem gR_5_1 (C : Cx l Z ex X cc own nL ret) {index b : Nat} {r : Nat}  (hb : (zk Z b).1 = 5) (hlink : (Cond.fieldLink own index RX7 "saved" "[LWornDots$State;").before (xa X) (xs X) = true) (hr : μ.2.1 b 1 = some r) (hd : decode cc pc = .ok (.getfield index, 3)) (k : G Z X nL cells slots (pc + 3) lv (.ref (za Z r) :: rest) μ) : G Z X nL cells slots pc lv (.ref (za Z b) :: rest) μ := g_getf C inTX7 (c := 5) rfl (by decide) hb 1 (by decide) hlink (v := rv Z μ b 1) rfl hd (by show G Z X nL cells slots (pc + 3) lv (va_rf ((μ.2.1 b 1).map (za Z)) :: rest) μ; rw [hr]; exact k)
theorem gRN_5_1 (C : Cx l Z ex X cc own nL ret) {index b : Nat} {r : Nat}  (hb : (zk Z b).1 = 5) (hlink : (Cond.fieldLinkNest own index RX7 "saved" "[LWornDots$State;" "WornDots").before (xa X) (xs X) = true) (hr : μ.2.1 b 1 = some r) (hd : decode cc pc = .ok (.getfield index, 3)) (k : G Z X nL cells slots (pc + 3) lv (.ref (za Z r) :: rest) μ) : G Z X nL cells slots pc lv (.ref (za Z b) :: rest) μ := g_getfN C inTX7 (c := 5) rfl (by decide) hb 1 (by decide) hlink (v := rv Z μ b 1) rfl hd (by show G Z X nL cells slots (pc + 3) lv (va_rf ((μ.2.1 b 1).map (za Z)) :: rest) μ; rw [hr]; exact k)
theorem pF_5_1 (C : Cx l Z ex X cc own nL ret) {index b : Nat} {r : Nat}  (hb : (zk Z b).1 = 5) (hlink : (Cond.fieldLink own index RX7 "saved" "[LWornDots$State;").before (xa X) (xs X) = true) (hini : (xh X).name = "<init>") (hdecl : RX7 = own) (he : μ' = sR μ b 1 (some r)) (hd : decode cc pc = .ok (.putfield index, 3)) (k : G Z X nL cells slots (pc + 3) lv rest μ') : G Z X nL cells slots pc lv (.ref (za Z r) :: .ref (za Z b) :: rest) μ := g_putRF C inTX7 tyX7_ok nmX7 (c := 5) rfl (by decide) rfl hb 1 (by decide) hlink rfl hini hdecl rfl rfl fR_5_1 he hd k
theorem gI_5_2 (C : Cx l Z ex X cc own nL ret) {index b : Nat}  (hb : (zk Z b).1 = 5) (hlink : (Cond.fieldLink own index RX7 "savedCount" "I").before (xa X) (xs X) = true) (hd : decode cc pc = .ok (.getfield index, 3)) (k : G Z X nL cells slots (pc + 3) lv (.int (μ.1 b 2) :: rest) μ) : G Z X nL cells slots pc lv (.ref (za Z b) :: rest) μ := g_getf C inTX7 (c := 5) rfl (by decide) hb 2 (by decide) hlink (v := iv μ b 2) rfl hd k
theorem gIN_5_2 (C : Cx l Z ex X cc own nL ret) {index b : Nat}  (hb : (zk Z b).1 = 5) (hlink : (Cond.fieldLinkNest own index RX7 "savedCount" "I" "WornDots").before (xa X) (xs X) = true) (hd : decode cc pc = .ok (.getfield index, 3)) (k : G Z X nL cells slots (pc + 3) lv (.int (μ.1 b 2) :: rest) μ) : G Z X nL cells slots pc lv (.ref (za Z b) :: rest) μ := g_getfN C inTX7 (c := 5) rfl (by decide) hb 2 (by decide) hlink (v := iv μ b 2) rfl hd k
theorem pI_5_2 (C : Cx l Z ex X cc own nL ret) {index b : Nat} {v : Int32}  (hb : (zk Z b).1 = 5) (hlink : (Cond.fieldLink own index RX7 "savedCount" "I").before (xa X) (xs X) = true) (he : μ' = sI μ b 2 v) (hd : decode cc pc = .ok (.putfield index, 3)) (k : G Z X nL cells slots (pc + 3) lv rest μ') : G Z X nL cells slots pc lv (.int v :: .ref (za Z b) :: rest) μ := g_putI C inTX7 tyX7_ok nmX7 (c := 5) rfl (by decide) rfl hb 2 (by decide) hlink rfl rfl rfl fI_5_2 he hd k
theorem pIN_5_2 (C : Cx l Z ex X cc own nL ret) {index b : Nat} {v : Int32}  (hb : (zk Z b).1 = 5) (hlink : (Cond.fieldLinkNest own index RX7 "savedCount" "I" "WornDots").before (xa X) (xs X) = true) (he : μ' = sI μ b 2 v) (hd : decode cc pc = .ok (.putfield index, 3)) (k : G Z X nL cells slots (pc + 3) lv rest μ') : G Z X nL cells slots pc lv (.int v :: .ref (za Z b) :: rest) μ := g_putIN C inTX7 tyX7_ok nmX7 (c := 5) rfl (by decide) rfl hb 2 (by decide) hlink rfl rfl rfl fI_5_2 he hd k
theorem gR_5_3 (C : Cx l Z ex X cc own nL ret) {index b : Nat} {r : Nat}  (hb : (zk Z b).1 = 5) (hlink : (Cond.fieldLink own index RX7 "now" "LWornDots$State;").before (xa X) (xs X) = true) (hr : μ.2.1 b 3 = some r) (hd : decode cc pc = .ok (.getfield index, 3)) (k : G Z X nL cells slots (pc + 3) lv (.ref (za Z r) :: rest) μ) : G Z X nL cells slots pc lv (.ref (za Z b) :: rest) μ := g_getf C inTX7 (c := 5) rfl (by decide) hb 3 (by decide) hlink (v := rv Z μ b 3) rfl hd (by show G Z X nL cells slots (pc + 3) lv (va_rf ((μ.2.1 b 3).map (za Z)) :: rest) μ; rw [hr]; exact k)
theorem gRN_5_3 (C : Cx l Z ex X cc own nL ret) {index b : Nat} {r : Nat}  (hb : (zk Z b).1 = 5) (hlink : (Cond.fieldLinkNest own index RX7 "now" "LWornDots$State;" "WornDots").before (xa X) (xs X) = true) (hr : μ.2.1 b 3 = some r) (hd : decode cc pc = .ok (.getfield index, 3)) (k : G Z X nL cells slots (pc + 3) lv (.ref (za Z r) :: rest) μ) : G Z X nL cells slots pc lv (.ref (za Z b) :: rest) μ := g_getfN C inTX7 (c := 5) rfl (by decide) hb 3 (by decide) hlink (v := rv Z μ b 3) rfl hd (by show G Z X nL cells slots (pc + 3) lv (va_rf ((μ.2.1 b 3).map (za Z)) :: rest) μ; rw [hr]; exact k)
theorem pF_5_3 (C : Cx l Z ex X cc own nL ret) {index b : Nat} {r : Nat}  (hb : (zk Z b).1 = 5) (hlink : (Cond.fieldLink own index RX7 "now" "LWornDots$State;").before (xa X) (xs X) = true) (hini : (xh X).name = "<init>") (hdecl : RX7 = own) (he : μ' = sR μ b 3 (some r)) (hd : decode cc pc = .ok (.putfield index, 3)) (k : G Z X nL cells slots (pc + 3) lv rest μ') : G Z X nL cells slots pc lv (.ref (za Z r) :: .ref (za Z b) :: rest) μ := g_putRF C inTX7 tyX7_ok nmX7 (c := 5) rfl (by decide) rfl hb 3 (by decide) hlink rfl hini hdecl rfl rfl fR_5_3 he hd k
theorem gR_6_0 (C : Cx l Z ex X cc own nL ret) {index b : Nat} {r : Nat}  (hb : (zk Z b).1 = 6) (hlink : (Cond.fieldLink own index RX8 "s" "[I").before (xa X) (xs X) = true) (hr : μ.2.1 b 0 = some r) (hd : decode cc pc = .ok (.getfield index, 3)) (k : G Z X nL cells slots (pc + 3) lv (.ref (za Z r) :: rest) μ) : G Z X nL cells slots pc lv (.ref (za Z b) :: rest) μ := g_getf C inTX8 (c := 6) rfl (by decide) hb 0 (by decide) hlink (v := rv Z μ b 0) rfl hd (by show G Z X nL cells slots (pc + 3) lv (va_rf ((μ.2.1 b 0).map (za Z)) :: rest) μ; rw [hr]; exact k)
theorem pF_6_0 (C : Cx l Z ex X cc own nL ret) {index b : Nat} {r : Nat}  (hb : (zk Z b).1 = 6) (hlink : (Cond.fieldLink own index RX8 "s" "[I").before (xa X) (xs X) = true) (hini : (xh X).name = "<init>") (hdecl : RX8 = own) (he : μ' = sR μ b 0 (some r)) (hd : decode cc pc = .ok (.putfield index, 3)) (k : G Z X nL cells slots (pc + 3) lv rest μ') : G Z X nL cells slots pc lv (.ref (za Z r) :: .ref (za Z b) :: rest) μ := g_putRF C inTX8 tyX8_ok nmX8 (c := 6) rfl (by decide) rfl hb 0 (by decide) hlink rfl hini hdecl rfl rfl fR_6_0 he hd k
theorem gR_6_1 (C : Cx l Z ex X cc own nL ret) {index b : Nat} {r : Nat}  (hb : (zk Z b).1 = 6) (hlink : (Cond.fieldLink own index RX8 "w" "[I").before (xa X) (xs X) = true) (hr : μ.2.1 b 1 = some r) (hd : decode cc pc = .ok (.getfield index, 3)) (k : G Z X nL cells slots (pc + 3) lv (.ref (za Z r) :: rest) μ) : G Z X nL cells slots pc lv (.ref (za Z b) :: rest) μ := g_getf C inTX8 (c := 6) rfl (by decide) hb 1 (by decide) hlink (v := rv Z μ b 1) rfl hd (by show G Z X nL cells slots (pc + 3) lv (va_rf ((μ.2.1 b 1).map (za Z)) :: rest) μ; rw [hr]; exact k)
theorem pF_6_1 (C : Cx l Z ex X cc own nL ret) {index b : Nat} {r : Nat}  (hb : (zk Z b).1 = 6) (hlink : (Cond.fieldLink own index RX8 "w" "[I").before (xa X) (xs X) = true) (hini : (xh X).name = "<init>") (hdecl : RX8 = own) (he : μ' = sR μ b 1 (some r)) (hd : decode cc pc = .ok (.putfield index, 3)) (k : G Z X nL cells slots (pc + 3) lv rest μ') : G Z X nL cells slots pc lv (.ref (za Z r) :: .ref (za Z b) :: rest) μ := g_putRF C inTX8 tyX8_ok nmX8 (c := 6) rfl (by decide) rfl hb 1 (by decide) hlink rfl hini hdecl rfl rfl fR_6_1 he hd k
theorem gR_6_2 (C : Cx l Z ex X cc own nL ret) {index b : Nat} {r : Nat}  (hb : (zk Z b).1 = 6) (hlink : (Cond.fieldLink own index RX8 "past" "[I").before (xa X) (xs X) = true) (hr : μ.2.1 b 2 = some r) (hd : decode cc pc = .ok (.getfield index, 3)) (k : G Z X nL cells slots (pc + 3) lv (.ref (za Z r) :: rest) μ) : G Z X nL cells slots pc lv (.ref (za Z b) :: rest) μ := g_getf C inTX8 (c := 6) rfl (by decide) hb 2 (by decide) hlink (v := rv Z μ b 2) rfl hd (by show G Z X nL cells slots (pc + 3) lv (va_rf ((μ.2.1 b 2).map (za Z)) :: rest) μ; rw [hr]; exact k)
theorem pF_6_2 (C : Cx l Z ex X cc own nL ret) {index b : Nat} {r : Nat}  (hb : (zk Z b).1 = 6) (hlink : (Cond.fieldLink own index RX8 "past" "[I").before (xa X) (xs X) = true) (hini : (xh X).name = "<init>") (hdecl : RX8 = own) (he : μ' = sR μ b 2 (some r)) (hd : decode cc pc = .ok (.putfield index, 3)) (k : G Z X nL cells slots (pc + 3) lv rest μ') : G Z X nL cells slots pc lv (.ref (za Z r) :: .ref (za Z b) :: rest) μ := g_putRF C inTX8 tyX8_ok nmX8 (c := 6) rfl (by decide) rfl hb 2 (by decide) hlink rfl hini hdecl rfl rfl fR_6_2 he hd k
theorem gI_6_3 (C : Cx l Z ex X cc own nL ret) {index b : Nat}  (hb : (zk Z b).1 = 6) (hlink : (Cond.fieldLink own index RX8 "pasts" "I").before (xa X) (xs X) = true) (hd : decode cc pc = .ok (.getfield index, 3)) (k : G Z X nL cells slots (pc + 3) lv (.int (μ.1 b 3) :: rest) μ) : G Z X nL cells slots pc lv (.ref (za Z b) :: rest) μ := g_getf C inTX8 (c := 6) rfl (by decide) hb 3 (by decide) hlink (v := iv μ b 3) rfl hd k
theorem pI_6_3 (C : Cx l Z ex X cc own nL ret) {index b : Nat} {v : Int32}  (hb : (zk Z b).1 = 6) (hlink : (Cond.fieldLink own index RX8 "pasts" "I").before (xa X) (xs X) = true) (he : μ' = sI μ b 3 v) (hd : decode cc pc = .ok (.putfield index, 3)) (k : G Z X nL cells slots (pc + 3) lv rest μ') : G Z X nL cells slots pc lv (.int v :: .ref (za Z b) :: rest) μ := g_putI C inTX8 tyX8_ok nmX8 (c := 6) rfl (by decide) rfl hb 3 (by decide) hlink rfl rfl rfl fI_6_3 he hd k
theorem gI_6_4 (C : Cx l Z ex X cc own nL ret) {index b : Nat}  (hb : (zk Z b).1 = 6) (hlink : (Cond.fieldLink own index RX8 "runs" "Z").before (xa X) (xs X) = true) (hd : decode cc pc = .ok (.getfield index, 3)) (k : G Z X nL cells slots (pc + 3) lv (.int (μ.1 b 4) :: rest) μ) : G Z X nL cells slots pc lv (.ref (za Z b) :: rest) μ := g_getf C inTX8 (c := 6) rfl (by decide) hb 4 (by decide) hlink (v := iv μ b 4) rfl hd k
theorem pI_6_4 (C : Cx l Z ex X cc own nL ret) {index b : Nat} {v : Int32}  (hb : (zk Z b).1 = 6) (hz : v = 0 ∨ v = 1) (hlink : (Cond.fieldLink own index RX8 "runs" "Z").before (xa X) (xs X) = true) (he : μ' = sI μ b 4 v) (hd : decode cc pc = .ok (.putfield index, 3)) (k : G Z X nL cells slots (pc + 3) lv rest μ') : G Z X nL cells slots pc lv (.int v :: .ref (za Z b) :: rest) μ := g_putI C inTX8 tyX8_ok nmX8 (c := 6) rfl (by decide) rfl hb 4 (by decide) hlink rfl (by rcases hz with rfl | rfl <;> rfl) (by rcases hz with rfl | rfl <;> rfl) fI_6_4 he hd k
theorem gR_6_5 (C : Cx l Z ex X cc own nL ret) {index b : Nat} {r : Nat}  (hb : (zk Z b).1 = 6) (hlink : (Cond.fieldLink own index RX8 "text" "[I").before (xa X) (xs X) = true) (hr : μ.2.1 b 5 = some r) (hd : decode cc pc = .ok (.getfield index, 3)) (k : G Z X nL cells slots (pc + 3) lv (.ref (za Z r) :: rest) μ) : G Z X nL cells slots pc lv (.ref (za Z b) :: rest) μ := g_getf C inTX8 (c := 6) rfl (by decide) hb 5 (by decide) hlink (v := rv Z μ b 5) rfl hd (by show G Z X nL cells slots (pc + 3) lv (va_rf ((μ.2.1 b 5).map (za Z)) :: rest) μ; rw [hr]; exact k)
theorem pF_6_5 (C : Cx l Z ex X cc own nL ret) {index b : Nat} {r : Nat}  (hb : (zk Z b).1 = 6) (hlink : (Cond.fieldLink own index RX8 "text" "[I").before (xa X) (xs X) = true) (hini : (xh X).name = "<init>") (hdecl : RX8 = own) (he : μ' = sR μ b 5 (some r)) (hd : decode cc pc = .ok (.putfield index, 3)) (k : G Z X nL cells slots (pc + 3) lv rest μ') : G Z X nL cells slots pc lv (.ref (za Z r) :: .ref (za Z b) :: rest) μ := g_putRF C inTX8 tyX8_ok nmX8 (c := 6) rfl (by decide) rfl hb 5 (by decide) hlink rfl hini hdecl rfl rfl fR_6_5 he hd k
theorem gI_6_6 (C : Cx l Z ex X cc own nL ret) {index b : Nat}  (hb : (zk Z b).1 = 6) (hlink : (Cond.fieldLink own index RX8 "typed" "I").before (xa X) (xs X) = true) (hd : decode cc pc = .ok (.getfield index, 3)) (k : G Z X nL cells slots (pc + 3) lv (.int (μ.1 b 6) :: rest) μ) : G Z X nL cells slots pc lv (.ref (za Z b) :: rest) μ := g_getf C inTX8 (c := 6) rfl (by decide) hb 6 (by decide) hlink (v := iv μ b 6) rfl hd k
theorem pI_6_6 (C : Cx l Z ex X cc own nL ret) {index b : Nat} {v : Int32}  (hb : (zk Z b).1 = 6) (hlink : (Cond.fieldLink own index RX8 "typed" "I").before (xa X) (xs X) = true) (he : μ' = sI μ b 6 v) (hd : decode cc pc = .ok (.putfield index, 3)) (k : G Z X nL cells slots (pc + 3) lv rest μ') : G Z X nL cells slots pc lv (.int v :: .ref (za Z b) :: rest) μ := g_putI C inTX8 tyX8_ok nmX8 (c := 6) rfl (by decide) rfl hb 6 (by decide) hlink rfl rfl rfl fI_6_6 he hd k
theorem gI_6_7 (C : Cx l Z ex X cc own nL ret) {index b : Nat}  (hb : (zk Z b).1 = 6) (hlink : (Cond.fieldLink own index RX8 "refused" "I").before (xa X) (xs X) = true) (hd : decode cc pc = .ok (.getfield index, 3)) (k : G Z X nL cells slots (pc + 3) lv (.int (μ.1 b 7) :: rest) μ) : G Z X nL cells slots pc lv (.ref (za Z b) :: rest) μ := g_getf C inTX8 (c := 6) rfl (by decide) hb 7 (by decide) hlink (v := iv μ b 7) rfl hd k
theorem pI_6_7 (C : Cx l Z ex X cc own nL ret) {index b : Nat} {v : Int32}  (hb : (zk Z b).1 = 6) (hlink : (Cond.fieldLink own index RX8 "refused" "I").before (xa X) (xs X) = true) (he : μ' = sI μ b 7 v) (hd : decode cc pc = .ok (.putfield index, 3)) (k : G Z X nL cells slots (pc + 3) lv rest μ') : G Z X nL cells slots pc lv (.int v :: .ref (za Z b) :: rest) μ := g_putI C inTX8 tyX8_ok nmX8 (c := 6) rfl (by decide) rfl hb 7 (by decide) hlink rfl rfl rfl fI_6_7 he hd k
theorem gI_6_8 (C : Cx l Z ex X cc own nL ret) {index b : Nat}  (hb : (zk Z b).1 = 6) (hlink : (Cond.fieldLink own index RX8 "spot" "I").before (xa X) (xs X) = true) (hd : decode cc pc = .ok (.getfield index, 3)) (k : G Z X nL cells slots (pc + 3) lv (.int (μ.1 b 8) :: rest) μ) : G Z X nL cells slots pc lv (.ref (za Z b) :: rest) μ := g_getf C inTX8 (c := 6) rfl (by decide) hb 8 (by decide) hlink (v := iv μ b 8) rfl hd k
theorem pI_6_8 (C : Cx l Z ex X cc own nL ret) {index b : Nat} {v : Int32}  (hb : (zk Z b).1 = 6) (hlink : (Cond.fieldLink own index RX8 "spot" "I").before (xa X) (xs X) = true) (he : μ' = sI μ b 8 v) (hd : decode cc pc = .ok (.putfield index, 3)) (k : G Z X nL cells slots (pc + 3) lv rest μ') : G Z X nL cells slots pc lv (.int v :: .ref (za Z b) :: rest) μ := g_putI C inTX8 tyX8_ok nmX8 (c := 6) rfl (by decide) rfl hb 8 (by decide) hlink rfl rfl rfl fI_6_8 he hd k
theorem gI_6_9 (C : Cx l Z ex X cc own nL ret) {index b : Nat}  (hb : (zk Z b).1 = 6) (hlink : (Cond.fieldLink own index RX8 "command" "I").before (xa X) (xs X) = true) (hd : decode cc pc = .ok (.getfield index, 3)) (k : G Z X nL cells slots (pc + 3) lv (.int (μ.1 b 9) :: rest) μ) : G Z X nL cells slots pc lv (.ref (za Z b) :: rest) μ := g_getf C inTX8 (c := 6) rfl (by decide) hb 9 (by decide) hlink (v := iv μ b 9) rfl hd k
theorem pI_6_9 (C : Cx l Z ex X cc own nL ret) {index b : Nat} {v : Int32}  (hb : (zk Z b).1 = 6) (hlink : (Cond.fieldLink own index RX8 "command" "I").before (xa X) (xs X) = true) (he : μ' = sI μ b 9 v) (hd : decode cc pc = .ok (.putfield index, 3)) (k : G Z X nL cells slots (pc + 3) lv rest μ') : G Z X nL cells slots pc lv (.int v :: .ref (za Z b) :: rest) μ := g_putI C inTX8 tyX8_ok nmX8 (c := 6) rfl (by decide) rfl hb 9 (by decide) hlink rfl rfl rfl fI_6_9 he hd k
theorem gR_6_10 (C : Cx l Z ex X cc own nL ret) {index b : Nat} {r : Nat}  (hb : (zk Z b).1 = 6) (hlink : (Cond.fieldLink own index RX8 "read" "[I").before (xa X) (xs X) = true) (hr : μ.2.1 b 10 = some r) (hd : decode cc pc = .ok (.getfield index, 3)) (k : G Z X nL cells slots (pc + 3) lv (.ref (za Z r) :: rest) μ) : G Z X nL cells slots pc lv (.ref (za Z b) :: rest) μ := g_getf C inTX8 (c := 6) rfl (by decide) hb 10 (by decide) hlink (v := rv Z μ b 10) rfl hd (by show G Z X nL cells slots (pc + 3) lv (va_rf ((μ.2.1 b 10).map (za Z)) :: rest) μ; rw [hr]; exact k)
theorem pF_6_10 (C : Cx l Z ex X cc own nL ret) {index b : Nat} {r : Nat}  (hb : (zk Z b).1 = 6) (hlink : (Cond.fieldLink own index RX8 "read" "[I").before (xa X) (xs X) = true) (hini : (xh X).name = "<init>") (hdecl : RX8 = own) (he : μ' = sR μ b 10 (some r)) (hd : decode cc pc = .ok (.putfield index, 3)) (k : G Z X nL cells slots (pc + 3) lv rest μ') : G Z X nL cells slots pc lv (.ref (za Z r) :: .ref (za Z b) :: rest) μ := g_putRF C inTX8 tyX8_ok nmX8 (c := 6) rfl (by decide) rfl hb 10 (by decide) hlink rfl hini hdecl rfl rfl fR_6_10 he hd k
theorem gA_9 (C : Cx l Z ex X cc own nL ret) {a r : Nat} {i : Int32} (ha : (zk Z a).1 = 9) (hi : inb i (zk Z a).2) (hr : μ.2.1 a (ix i) = some r) (hd : decode cc pc = .ok (.aaload, 1)) (k : G Z X nL cells slots (pc + 1) lv (.ref (za Z r) :: rest) μ) : G Z X nL cells slots pc lv (.int i :: .ref (za Z a) :: rest) μ := g_aald (c := 9) C "WornDots$Customer" 2 rfl (by decide) (by decide) ha hi hd hr k
theorem pA_9 (C : Cx l Z ex X cc own nL ret) {a r : Nat} {i : Int32} (ha : (zk Z a).1 = 9) (hi : inb i (zk Z a).2) (hr : (zk Z r).1 = 1) (he : μ' = sR μ a (ix i) (some r)) (hd : decode cc pc = .ok (.aastore, 1)) (k : G Z X nL cells slots (pc + 1) lv rest μ') : G Z X nL cells slots pc lv (.ref (za Z r) :: .int i :: .ref (za Z a) :: rest) μ := g_aast (c := 9) (c2 := 1) C 2 rfl (by decide) (by decide) ha hi hr (by decide) rfl he hd k
theorem gA_10 (C : Cx l Z ex X cc own nL ret) {a r : Nat} {i : Int32} (ha : (zk Z a).1 = 10) (hi : inb i (zk Z a).2) (hr : μ.2.1 a (ix i) = some r) (hd : decode cc pc = .ok (.aaload, 1)) (k : G Z X nL cells slots (pc + 1) lv (.ref (za Z r) :: rest) μ) : G Z X nL cells slots pc lv (.int i :: .ref (za Z a) :: rest) μ := g_aald (c := 10) C "WornDots$Label" 3 rfl (by decide) (by decide) ha hi hd hr k
theorem pA_10 (C : Cx l Z ex X cc own nL ret) {a r : Nat} {i : Int32} (ha : (zk Z a).1 = 10) (hi : inb i (zk Z a).2) (hr : (zk Z r).1 = 3) (he : μ' = sR μ a (ix i) (some r)) (hd : decode cc pc = .ok (.aastore, 1)) (k : G Z X nL cells slots (pc + 1) lv rest μ') : G Z X nL cells slots pc lv (.ref (za Z r) :: .int i :: .ref (za Z a) :: rest) μ := g_aast (c := 10) (c2 := 3) C 3 rfl (by decide) (by decide) ha hi hr (by decide) rfl he hd k
theorem gA_11 (C : Cx l Z ex X cc own nL ret) {a r : Nat} {i : Int32} (ha : (zk Z a).1 = 11) (hi : inb i (zk Z a).2) (hr : μ.2.1 a (ix i) = some r) (hd : decode cc pc = .ok (.aaload, 1)) (k : G Z X nL cells slots (pc + 1) lv (.ref (za Z r) :: rest) μ) : G Z X nL cells slots pc lv (.int i :: .ref (za Z a) :: rest) μ := g_aald (c := 11) C "WornDots$State" 4 rfl (by decide) (by decide) ha hi hd hr k
theorem pA_11 (C : Cx l Z ex X cc own nL ret) {a r : Nat} {i : Int32} (ha : (zk Z a).1 = 11) (hi : inb i (zk Z a).2) (hr : (zk Z r).1 = 4) (he : μ' = sR μ a (ix i) (some r)) (hd : decode cc pc = .ok (.aastore, 1)) (k : G Z X nL cells slots (pc + 1) lv rest μ') : G Z X nL cells slots pc lv (.ref (za Z r) :: .int i :: .ref (za Z a) :: rest) μ := g_aast (c := 11) (c2 := 4) C 4 rfl (by decide) (by decide) ha hi hr (by decide) rfl he hd k
end Rows
end CoreD
end
section
/-! the words of the tables that the rows use, each by its place -/
theorem nf_3 {l : Launch} {Z : ZZ} {ex : Bool} {X : XX} {cc : ByteArray} {nL : Nat} {ret : Option FieldType} (C : Cx l Z ex X cc RX5 nL ret) : (Cond.fieldLinkNest RX5 68 RX3 "dots" "I" "WornDots").before (xa X) (xs X) = true := va_Nw.use rfl (C.nw.1 ("WornDots$State", 68, "WornDots$Head", "dots", "I", "WornDots") (List.mem_of_getElem? (i := 3) rfl))
theorem nf_4 {l : Launch} {Z : ZZ} {ex : Bool} {X : XX} {cc : ByteArray} {nL : Nat} {ret : Option FieldType} (C : Cx l Z ex X cc RX7 nL ret) : (Cond.fieldLinkNest RX7 238 RX3 "dots" "I" "WornDots").before (xa X) (xs X) = true := va_Nw.use rfl (C.nw.1 ("WornDots", 238, "WornDots$Head", "dots", "I", "WornDots") (List.mem_of_getElem? (i := 4) rfl))
theorem nf_5 {l : Launch} {Z : ZZ} {ex : Bool} {X : XX} {cc : ByteArray} {nL : Nat} {ret : Option FieldType} (C : Cx l Z ex X cc RX5 nL ret) : (Cond.fieldLinkNest RX5 194 RX3 "burntInAll" "I" "WornDots").before (xa X) (xs X) = true := va_Nw.use rfl (C.nw.1 ("WornDots$State", 194, "WornDots$Head", "burntInAll", "I", "WornDots") (List.mem_of_getElem? (i := 5) rfl))
theorem nf_6 {l : Launch} {Z : ZZ} {ex : Bool} {X : XX} {cc : ByteArray} {nL : Nat} {ret : Option FieldType} (C : Cx l Z ex X cc RX5 nL ret) : (Cond.fieldLinkNest RX5 180 RX3 "heat" "[I" "WornDots").before (xa X) (xs X) = true := va_Nw.use rfl (C.nw.1 ("WornDots$State", 180, "WornDots$Head", "heat", "[I", "WornDots") (List.mem_of_getElem? (i := 6) rfl))
theorem nf_7 {l : Launch} {Z : ZZ} {ex : Bool} {X : XX} {cc : ByteArray} {nL : Nat} {ret : Option FieldType} (C : Cx l Z ex X cc RX5 nL ret) : (Cond.fieldLinkNest RX5 107 RX3 "wear" "[I" "WornDots").before (xa X) (xs X) = true := va_Nw.use rfl (C.nw.1 ("WornDots$State", 107, "WornDots$Head", "wear", "[I", "WornDots") (List.mem_of_getElem? (i := 7) rfl))
theorem nf_8 {l : Launch} {Z : ZZ} {ex : Bool} {X : XX} {cc : ByteArray} {nL : Nat} {ret : Option FieldType} (C : Cx l Z ex X cc RX5 nL ret) : (Cond.fieldLinkNest RX5 187 RX3 "burnt" "[I" "WornDots").before (xa X) (xs X) = true := va_Nw.use rfl (C.nw.1 ("WornDots$State", 187, "WornDots$Head", "burnt", "[I", "WornDots") (List.mem_of_getElem? (i := 8) rfl))
theorem nf_10 {l : Launch} {Z : ZZ} {ex : Bool} {X : XX} {cc : ByteArray} {nL : Nat} {ret : Option FieldType} (C : Cx l Z ex X cc RX5 nL ret) : (Cond.fieldLinkNest RX5 88 RX4 "width" "I" "WornDots").before (xa X) (xs X) = true := va_Nw.use rfl (C.nw.1 ("WornDots$State", 88, "WornDots$Label", "width", "I", "WornDots") (List.mem_of_getElem? (i := 10) rfl))
theorem nf_11 {l : Launch} {Z : ZZ} {ex : Bool} {X : XX} {cc : ByteArray} {nL : Nat} {ret : Option FieldType} (C : Cx l Z ex X cc RX3 nL ret) : (Cond.fieldLinkNest RX3 38 RX4 "width" "I" "WornDots").before (xa X) (xs X) = true := va_Nw.use rfl (C.nw.1 ("WornDots$Head", 38, "WornDots$Label", "width", "I", "WornDots") (List.mem_of_getElem? (i := 11) rfl))
theorem nf_12 {l : Launch} {Z : ZZ} {ex : Bool} {X : XX} {cc : ByteArray} {nL : Nat} {ret : Option FieldType} (C : Cx l Z ex X cc RX5 nL ret) : (Cond.fieldLinkNest RX5 91 RX4 "blackness" "I" "WornDots").before (xa X) (xs X) = true := va_Nw.use rfl (C.nw.1 ("WornDots$State", 91, "WornDots$Label", "blackness", "I", "WornDots") (List.mem_of_getElem? (i := 12) rfl))
theorem nf_13 {l : Launch} {Z : ZZ} {ex : Bool} {X : XX} {cc : ByteArray} {nL : Nat} {ret : Option FieldType} (C : Cx l Z ex X cc RX3 nL ret) : (Cond.fieldLinkNest RX3 50 RX4 "blackness" "I" "WornDots").before (xa X) (xs X) = true := va_Nw.use rfl (C.nw.1 ("WornDots$Head", 50, "WornDots$Label", "blackness", "I", "WornDots") (List.mem_of_getElem? (i := 13) rfl))
theorem nf_14 {l : Launch} {Z : ZZ} {ex : Bool} {X : XX} {cc : ByteArray} {nL : Nat} {ret : Option FieldType} (C : Cx l Z ex X cc RX5 nL ret) : (Cond.fieldLinkNest RX5 162 RX4 "printed" "I" "WornDots").before (xa X) (xs X) = true := va_Nw.use rfl (C.nw.1 ("WornDots$State", 162, "WornDots$Label", "printed", "I", "WornDots") (List.mem_of_getElem? (i := 14) rfl))
theorem nf_15 {l : Launch} {Z : ZZ} {ex : Bool} {X : XX} {cc : ByteArray} {nL : Nat} {ret : Option FieldType} (C : Cx l Z ex X cc RX5 nL ret) : (Cond.fieldLinkNest RX5 169 RX4 "failed" "I" "WornDots").before (xa X) (xs X) = true := va_Nw.use rfl (C.nw.1 ("WornDots$State", 169, "WornDots$Label", "failed", "I", "WornDots") (List.mem_of_getElem? (i := 15) rfl))
theorem nf_16 {l : Launch} {Z : ZZ} {ex : Bool} {X : XX} {cc : ByteArray} {nL : Nat} {ret : Option FieldType} (C : Cx l Z ex X cc RX3 nL ret) : (Cond.fieldLinkNest RX3 43 RX4 "rows" "[I" "WornDots").before (xa X) (xs X) = true := va_Nw.use rfl (C.nw.1 ("WornDots$Head", 43, "WornDots$Label", "rows", "[I", "WornDots") (List.mem_of_getElem? (i := 16) rfl))
theorem nf_17 {l : Launch} {Z : ZZ} {ex : Bool} {X : XX} {cc : ByteArray} {nL : Nat} {ret : Option FieldType} (C : Cx l Z ex X cc RX5 nL ret) : (Cond.fieldLinkNest RX5 101 RX4 "rows" "[I" "WornDots").before (xa X) (xs X) = true := va_Nw.use rfl (C.nw.1 ("WornDots$State", 101, "WornDots$Label", "rows", "[I", "WornDots") (List.mem_of_getElem? (i := 17) rfl))
theorem nf_18 {l : Launch} {Z : ZZ} {ex : Bool} {X : XX} {cc : ByteArray} {nL : Nat} {ret : Option FieldType} (C : Cx l Z ex X cc RX7 nL ret) : (Cond.fieldLinkNest RX7 127 RX4 "rows" "[I" "WornDots").before (xa X) (xs X) = true := va_Nw.use rfl (C.nw.1 ("WornDots", 127, "WornDots$Label", "rows", "[I", "WornDots") (List.mem_of_getElem? (i := 18) rfl))
theorem nf_19 {l : Launch} {Z : ZZ} {ex : Bool} {X : XX} {cc : ByteArray} {nL : Nat} {ret : Option FieldType} (C : Cx l Z ex X cc RX5 nL ret) : (Cond.fieldLinkNest RX5 126 RX2 "first" "I" "WornDots").before (xa X) (xs X) = true := va_Nw.use rfl (C.nw.1 ("WornDots$State", 126, "WornDots$Customer", "first", "I", "WornDots") (List.mem_of_getElem? (i := 19) rfl))
theorem nf_20 {l : Launch} {Z : ZZ} {ex : Bool} {X : XX} {cc : ByteArray} {nL : Nat} {ret : Option FieldType} (C : Cx l Z ex X cc RX5 nL ret) : (Cond.fieldLinkNest RX5 129 RX2 "last" "I" "WornDots").before (xa X) (xs X) = true := va_Nw.use rfl (C.nw.1 ("WornDots$State", 129, "WornDots$Customer", "last", "I", "WornDots") (List.mem_of_getElem? (i := 20) rfl))
theorem nf_21 {l : Launch} {Z : ZZ} {ex : Bool} {X : XX} {cc : ByteArray} {nL : Nat} {ret : Option FieldType} (C : Cx l Z ex X cc RX5 nL ret) : (Cond.fieldLinkNest RX5 156 RX2 "paid" "I" "WornDots").before (xa X) (xs X) = true := va_Nw.use rfl (C.nw.1 ("WornDots$State", 156, "WornDots$Customer", "paid", "I", "WornDots") (List.mem_of_getElem? (i := 21) rfl))
theorem nf_22 {l : Launch} {Z : ZZ} {ex : Bool} {X : XX} {cc : ByteArray} {nL : Nat} {ret : Option FieldType} (C : Cx l Z ex X cc RX5 nL ret) : (Cond.fieldLinkNest RX5 163 RX2 "paidBack" "I" "WornDots").before (xa X) (xs X) = true := va_Nw.use rfl (C.nw.1 ("WornDots$State", 163, "WornDots$Customer", "paidBack", "I", "WornDots") (List.mem_of_getElem? (i := 22) rfl))
theorem nf_23 {l : Launch} {Z : ZZ} {ex : Bool} {X : XX} {cc : ByteArray} {nL : Nat} {ret : Option FieldType} (C : Cx l Z ex X cc RX5 nL ret) : (Cond.fieldLinkNest RX5 159 RX2 "printed" "I" "WornDots").before (xa X) (xs X) = true := va_Nw.use rfl (C.nw.1 ("WornDots$State", 159, "WornDots$Customer", "printed", "I", "WornDots") (List.mem_of_getElem? (i := 23) rfl))
theorem nf_24 {l : Launch} {Z : ZZ} {ex : Bool} {X : XX} {cc : ByteArray} {nL : Nat} {ret : Option FieldType} (C : Cx l Z ex X cc RX5 nL ret) : (Cond.fieldLinkNest RX5 166 RX2 "failed" "I" "WornDots").before (xa X) (xs X) = true := va_Nw.use rfl (C.nw.1 ("WornDots$State", 166, "WornDots$Customer", "failed", "I", "WornDots") (List.mem_of_getElem? (i := 24) rfl))
theorem nf_25 {l : Launch} {Z : ZZ} {ex : Bool} {X : XX} {cc : ByteArray} {nL : Nat} {ret : Option FieldType} (C : Cx l Z ex X cc RX7 nL ret) : (Cond.fieldLinkNest RX7 169 RX5 "head" "LWornDots$Head;" "WornDots").before (xa X) (xs X) = true := va_Nw.use rfl (C.nw.1 ("WornDots", 169, "WornDots$State", "head", "LWornDots$Head;", "WornDots") (List.mem_of_getElem? (i := 25) rfl))
theorem nf_26 {l : Launch} {Z : ZZ} {ex : Bool} {X : XX} {cc : ByteArray} {nL : Nat} {ret : Option FieldType} (C : Cx l Z ex X cc RX7 nL ret) : (Cond.fieldLinkNest RX7 118 RX5 "labels" "[LWornDots$Label;" "WornDots").before (xa X) (xs X) = true := va_Nw.use rfl (C.nw.1 ("WornDots", 118, "WornDots$State", "labels", "[LWornDots$Label;", "WornDots") (List.mem_of_getElem? (i := 26) rfl))
theorem nf_27 {l : Launch} {Z : ZZ} {ex : Bool} {X : XX} {cc : ByteArray} {nL : Nat} {ret : Option FieldType} (C : Cx l Z ex X cc RX7 nL ret) : (Cond.fieldLinkNest RX7 241 RX5 "labelCount" "I" "WornDots").before (xa X) (xs X) = true := va_Nw.use rfl (C.nw.1 ("WornDots", 241, "WornDots$State", "labelCount", "I", "WornDots") (List.mem_of_getElem? (i := 27) rfl))
theorem nf_28 {l : Launch} {Z : ZZ} {ex : Bool} {X : XX} {cc : ByteArray} {nL : Nat} {ret : Option FieldType} (C : Cx l Z ex X cc RX7 nL ret) : (Cond.fieldLinkNest RX7 134 RX5 "customers" "[LWornDots$Customer;" "WornDots").before (xa X) (xs X) = true := va_Nw.use rfl (C.nw.1 ("WornDots", 134, "WornDots$State", "customers", "[LWornDots$Customer;", "WornDots") (List.mem_of_getElem? (i := 28) rfl))
theorem nf_29 {l : Launch} {Z : ZZ} {ex : Bool} {X : XX} {cc : ByteArray} {nL : Nat} {ret : Option FieldType} (C : Cx l Z ex X cc RX7 nL ret) : (Cond.fieldLinkNest RX7 244 RX5 "customerCount" "I" "WornDots").before (xa X) (xs X) = true := va_Nw.use rfl (C.nw.1 ("WornDots", 244, "WornDots$State", "customerCount", "I", "WornDots") (List.mem_of_getElem? (i := 29) rfl))
set_option maxRecDepth 100000 in
theorem wd_1_1 : Cond.initialized RX7 ∈ TB := tb1 (List.mem_of_getElem? (i := 1) rfl) rfl
set_option maxRecDepth 100000 in
theorem wd_1_2 : Cond.initialized RX1 ∈ TB := tb1 (List.mem_of_getElem? (i := 2) rfl) rfl
set_option maxRecDepth 100000 in
theorem wd_1_5 : Cond.initialized RX3 ∈ TB := tb1 (List.mem_of_getElem? (i := 5) rfl) rfl
set_option maxRecDepth 100000 in
theorem wd_1_6 : Cond.initialized RX5 ∈ TB := tb1 (List.mem_of_getElem? (i := 6) rfl) rfl
set_option maxRecDepth 100000 in
theorem wd_1_7 : Cond.initialized "java/lang/System" ∈ TB := tb1 (List.mem_of_getElem? (i := 7) rfl) rfl
set_option maxRecDepth 100000 in
theorem wd_1_8 : Cond.initialized RX4 ∈ TB := tb1 (List.mem_of_getElem? (i := 8) rfl) rfl
set_option maxRecDepth 100000 in
theorem wd_1_9 : Cond.initialized RX2 ∈ TB := tb1 (List.mem_of_getElem? (i := 9) rfl) rfl
set_option maxRecDepth 100000 in
theorem wd_1_10 : Cond.initialized RX8 ∈ TB := tb1 (List.mem_of_getElem? (i := 10) rfl) rfl
set_option maxRecDepth 100000 in
theorem wd_1_17 : Cond.initialized RJ6 ∈ TB := tb1 (List.mem_of_getElem? (i := 17) rfl) rfl
set_option maxRecDepth 100000 in
theorem wd_1_18 : Cond.initialized "java/lang/Math" ∈ TB := tb1 (List.mem_of_getElem? (i := 18) rfl) rfl
set_option maxRecDepth 100000 in
theorem wd_1_40 : Cond.fieldLink RX1 9 RX1 "bytes" "[C" ∈ TB := tb1 (List.mem_of_getElem? (i := 40) rfl) rfl
set_option maxRecDepth 100000 in
theorem wd_1_41 : Cond.fieldLink RX1 32 RX1 "length" "I" ∈ TB := tb1 (List.mem_of_getElem? (i := 41) rfl) rfl
set_option maxRecDepth 100000 in
theorem wd_1_43 : Cond.fieldLink RX1 35 RX1 "place" "I" ∈ TB := tb1 (List.mem_of_getElem? (i := 43) rfl) rfl
set_option maxRecDepth 100000 in
theorem wd_1_44 : Cond.fieldLink RX1 15 RX1 "fault" "I" ∈ TB := tb1 (List.mem_of_getElem? (i := 44) rfl) rfl
set_option maxRecDepth 100000 in
theorem wd_1_47 : Cond.fieldLink RX1 28 RX1 "numbers" "[I" ∈ TB := tb1 (List.mem_of_getElem? (i := 47) rfl) rfl
set_option maxRecDepth 100000 in
theorem wd_1_72 : Cond.fieldLink RX3 9 RX3 "dots" "I" ∈ TB := tb1 (List.mem_of_getElem? (i := 72) rfl) rfl
set_option maxRecDepth 100000 in
theorem wd_1_75 : Cond.fieldLink RX3 25 RX3 "burntInAll" "I" ∈ TB := tb1 (List.mem_of_getElem? (i := 75) rfl) rfl
set_option maxRecDepth 100000 in
theorem wd_1_77 : Cond.fieldLink RX3 15 RX3 "heat" "[I" ∈ TB := tb1 (List.mem_of_getElem? (i := 77) rfl) rfl
set_option maxRecDepth 100000 in
theorem wd_1_79 : Cond.fieldLink RX3 19 RX3 "wear" "[I" ∈ TB := tb1 (List.mem_of_getElem? (i := 79) rfl) rfl
set_option maxRecDepth 100000 in
theorem wd_1_81 : Cond.fieldLink RX3 22 RX3 "burnt" "[I" ∈ TB := tb1 (List.mem_of_getElem? (i := 81) rfl) rfl
set_option maxRecDepth 100000 in
theorem wd_1_107 : Cond.methodLink RX5 40 arraycopyName ∈ TB := tb1 (List.mem_of_getElem? (i := 107) rfl) rfl
set_option maxRecDepth 100000 in
theorem wd_1_108 : Cond.static arraycopyName ∈ TB := tb1 (List.mem_of_getElem? (i := 108) rfl) rfl
set_option maxRecDepth 100000 in
theorem wd_1_109 : Cond.native arraycopyName ∈ TB := tb1 (List.mem_of_getElem? (i := 109) rfl) rfl
set_option maxRecDepth 100000 in
theorem wd_1_115 : Cond.fieldLink RX4 9 RX4 "width" "I" ∈ TB := tb1 (List.mem_of_getElem? (i := 115) rfl) rfl
set_option maxRecDepth 100000 in
theorem wd_1_118 : Cond.fieldLink RX4 15 RX4 "blackness" "I" ∈ TB := tb1 (List.mem_of_getElem? (i := 118) rfl) rfl
set_option maxRecDepth 100000 in
theorem wd_1_121 : Cond.fieldLink RX4 22 RX4 "printed" "I" ∈ TB := tb1 (List.mem_of_getElem? (i := 121) rfl) rfl
set_option maxRecDepth 100000 in
theorem wd_1_123 : Cond.fieldLink RX4 25 RX4 "failed" "I" ∈ TB := tb1 (List.mem_of_getElem? (i := 123) rfl) rfl
set_option maxRecDepth 100000 in
theorem wd_1_125 : Cond.fieldLink RX4 18 RX4 "rows" "[I" ∈ TB := tb1 (List.mem_of_getElem? (i := 125) rfl) rfl
set_option maxRecDepth 100000 in
theorem wd_1_145 : Cond.fieldLink RX2 9 RX2 "first" "I" ∈ TB := tb1 (List.mem_of_getElem? (i := 145) rfl) rfl
set_option maxRecDepth 100000 in
theorem wd_1_147 : Cond.fieldLink RX2 15 RX2 "last" "I" ∈ TB := tb1 (List.mem_of_getElem? (i := 147) rfl) rfl
set_option maxRecDepth 100000 in
theorem wd_1_149 : Cond.fieldLink RX2 18 RX2 "paid" "I" ∈ TB := tb1 (List.mem_of_getElem? (i := 149) rfl) rfl
set_option maxRecDepth 100000 in
theorem wd_1_151 : Cond.fieldLink RX2 21 RX2 "paidBack" "I" ∈ TB := tb1 (List.mem_of_getElem? (i := 151) rfl) rfl
set_option maxRecDepth 100000 in
theorem wd_1_153 : Cond.fieldLink RX2 24 RX2 "printed" "I" ∈ TB := tb1 (List.mem_of_getElem? (i := 153) rfl) rfl
set_option maxRecDepth 100000 in
theorem wd_1_155 : Cond.fieldLink RX2 27 RX2 "failed" "I" ∈ TB := tb1 (List.mem_of_getElem? (i := 155) rfl) rfl
set_option maxRecDepth 100000 in
theorem wd_1_170 : Cond.fieldLink RX5 12 RX5 "head" "LWornDots$Head;" ∈ TB := tb1 (List.mem_of_getElem? (i := 170) rfl) rfl
set_option maxRecDepth 100000 in
theorem wd_1_172 : Cond.fieldLink RX5 34 RX5 "trial" "LWornDots$Head;" ∈ TB := tb1 (List.mem_of_getElem? (i := 172) rfl) rfl
set_option maxRecDepth 100000 in
theorem wd_1_173 : Cond.fieldLink RX5 18 RX5 "settings" "[I" ∈ TB := tb1 (List.mem_of_getElem? (i := 173) rfl) rfl
set_option maxRecDepth 100000 in
theorem wd_1_174 : Cond.fieldLink RX5 24 RX5 "labels" "[LWornDots$Label;" ∈ TB := tb1 (List.mem_of_getElem? (i := 174) rfl) rfl
set_option maxRecDepth 100000 in
theorem wd_1_176 : Cond.fieldLink RX5 55 RX5 "labelCount" "I" ∈ TB := tb1 (List.mem_of_getElem? (i := 176) rfl) rfl
set_option maxRecDepth 100000 in
theorem wd_1_178 : Cond.fieldLink RX5 30 RX5 "customers" "[LWornDots$Customer;" ∈ TB := tb1 (List.mem_of_getElem? (i := 178) rfl) rfl
set_option maxRecDepth 100000 in
theorem wd_1_180 : Cond.fieldLink RX5 62 RX5 "customerCount" "I" ∈ TB := tb1 (List.mem_of_getElem? (i := 180) rfl) rfl
set_option maxRecDepth 100000 in
theorem wd_1_182 : Cond.fieldLink RX5 65 RX5 "lines" "I" ∈ TB := tb1 (List.mem_of_getElem? (i := 182) rfl) rfl
set_option maxRecDepth 100000 in
theorem wd_1_200 : Cond.fieldLink RX7 10 RX7 "text" "LWornDots$CommandText;" ∈ TB := tb1 (List.mem_of_getElem? (i := 200) rfl) rfl
set_option maxRecDepth 100000 in
theorem wd_1_201 : Cond.fieldLink RX7 18 RX7 "saved" "[LWornDots$State;" ∈ TB := tb1 (List.mem_of_getElem? (i := 201) rfl) rfl
set_option maxRecDepth 100000 in
theorem wd_1_202 : Cond.fieldLink RX7 209 RX7 "savedCount" "I" ∈ TB := tb1 (List.mem_of_getElem? (i := 202) rfl) rfl
set_option maxRecDepth 100000 in
theorem wd_1_203 : Cond.fieldLink RX7 28 RX7 "now" "LWornDots$State;" ∈ TB := tb1 (List.mem_of_getElem? (i := 203) rfl) rfl
set_option maxRecDepth 100000 in
theorem wd_1_217 : Cond.methodLink RX7 173 yX3_mostWornDot ∈ TB := tb1 (List.mem_of_getElem? (i := 217) rfl) rfl
set_option maxRecDepth 100000 in
theorem wd_1_218 : Cond.instanceMethod yX3_mostWornDot ∈ TB := tb1 (List.mem_of_getElem? (i := 218) rfl) rfl
set_option maxRecDepth 100000 in
theorem wd_1_219 : Cond.selects RX3 yX3_mostWornDot yX3_mostWornDot ∈ TB := tb1 (List.mem_of_getElem? (i := 219) rfl) rfl
set_option maxRecDepth 100000 in
theorem wd_1_220 : Cond.code yX3_mostWornDot cX3_mostWornDot 3 (some .int) ∈ TB := tb1 (List.mem_of_getElem? (i := 220) rfl) rfl
set_option maxRecDepth 100000 in
theorem wd_1_225 : Cond.methodLink RX7 182 yX1_empty ∈ TB := tb1 (List.mem_of_getElem? (i := 225) rfl) rfl
set_option maxRecDepth 100000 in
theorem wd_1_226 : Cond.instanceMethod yX1_empty ∈ TB := tb1 (List.mem_of_getElem? (i := 226) rfl) rfl
set_option maxRecDepth 100000 in
theorem wd_1_227 : Cond.selects RX1 yX1_empty yX1_empty ∈ TB := tb1 (List.mem_of_getElem? (i := 227) rfl) rfl
set_option maxRecDepth 100000 in
theorem wd_1_228 : Cond.code yX1_empty cX1_empty 2 (some .int) ∈ TB := tb1 (List.mem_of_getElem? (i := 228) rfl) rfl
set_option maxRecDepth 100000 in
theorem wd_1_237 : Cond.methodLink RX1 38 yX1_rewind ∈ TB := tb1 (List.mem_of_getElem? (i := 237) rfl) rfl
set_option maxRecDepth 100000 in
theorem wd_1_238 : Cond.instanceMethod yX1_rewind ∈ TB := tb1 (List.mem_of_getElem? (i := 238) rfl) rfl
set_option maxRecDepth 100000 in
theorem wd_1_239 : Cond.selects RX1 yX1_rewind yX1_rewind ∈ TB := tb1 (List.mem_of_getElem? (i := 239) rfl) rfl
set_option maxRecDepth 100000 in
theorem wd_2_0 : Cond.code yX1_rewind cX1_rewind 1 none ∈ TB := tb2 (List.mem_of_getElem? (i := 0) rfl) rfl
set_option maxRecDepth 100000 in
theorem wd_2_5 : Cond.methodLink RX1 45 yX1_skipSpaces ∈ TB := tb2 (List.mem_of_getElem? (i := 5) rfl) rfl
set_option maxRecDepth 100000 in
theorem wd_2_7 : Cond.instanceMethod yX1_skipSpaces ∈ TB := tb2 (List.mem_of_getElem? (i := 7) rfl) rfl
set_option maxRecDepth 100000 in
theorem wd_2_8 : Cond.code yX1_skipSpaces cX1_skipSpaces 1 none ∈ TB := tb2 (List.mem_of_getElem? (i := 8) rfl) rfl
set_option maxRecDepth 100000 in
theorem wd_2_9 : Cond.methodLink RX1 48 yX1_skipLetters ∈ TB := tb2 (List.mem_of_getElem? (i := 9) rfl) rfl
set_option maxRecDepth 100000 in
theorem wd_2_11 : Cond.instanceMethod yX1_skipLetters ∈ TB := tb2 (List.mem_of_getElem? (i := 11) rfl) rfl
set_option maxRecDepth 100000 in
theorem wd_2_12 : Cond.code yX1_skipLetters cX1_skipLetters 1 none ∈ TB := tb2 (List.mem_of_getElem? (i := 12) rfl) rfl
set_option maxRecDepth 100000 in
theorem wd_2_75 : Cond.methodLink RX1 85 yX1_readNumber ∈ TB := tb2 (List.mem_of_getElem? (i := 75) rfl) rfl
set_option maxRecDepth 100000 in
theorem wd_2_77 : Cond.instanceMethod yX1_readNumber ∈ TB := tb2 (List.mem_of_getElem? (i := 77) rfl) rfl
set_option maxRecDepth 100000 in
theorem wd_2_78 : Cond.code yX1_readNumber cX1_readNumber 5 (some .boolean) ∈ TB := tb2 (List.mem_of_getElem? (i := 78) rfl) rfl
set_option maxRecDepth 100000 in
theorem wd_2_87 : Cond.methodLink RX7 212 yX5_takeOver ∈ TB := tb2 (List.mem_of_getElem? (i := 87) rfl) rfl
set_option maxRecDepth 100000 in
theorem wd_2_88 : Cond.instanceMethod yX5_takeOver ∈ TB := tb2 (List.mem_of_getElem? (i := 88) rfl) rfl
set_option maxRecDepth 100000 in
theorem wd_2_89 : Cond.selects RX5 yX5_takeOver yX5_takeOver ∈ TB := tb2 (List.mem_of_getElem? (i := 89) rfl) rfl
set_option maxRecDepth 100000 in
theorem wd_2_90 : Cond.code yX5_takeOver cX5_takeOver 3 none ∈ TB := tb2 (List.mem_of_getElem? (i := 90) rfl) rfl
set_option maxRecDepth 100000 in
theorem wd_2_91 : Cond.methodLink RX5 48 yX3_takeOver ∈ TB := tb2 (List.mem_of_getElem? (i := 91) rfl) rfl
set_option maxRecDepth 100000 in
theorem wd_2_92 : Cond.instanceMethod yX3_takeOver ∈ TB := tb2 (List.mem_of_getElem? (i := 92) rfl) rfl
set_option maxRecDepth 100000 in
theorem wd_2_93 : Cond.selects RX3 yX3_takeOver yX3_takeOver ∈ TB := tb2 (List.mem_of_getElem? (i := 93) rfl) rfl
set_option maxRecDepth 100000 in
theorem wd_2_94 : Cond.code yX3_takeOver cX3_takeOver 2 none ∈ TB := tb2 (List.mem_of_getElem? (i := 94) rfl) rfl
set_option maxRecDepth 100000 in
theorem wd_2_95 : Cond.methodLink RX3 28 arraycopyName ∈ TB := tb2 (List.mem_of_getElem? (i := 95) rfl) rfl
set_option maxRecDepth 100000 in
theorem wd_2_96 : Cond.methodLink RX5 52 yX4_takeOver ∈ TB := tb2 (List.mem_of_getElem? (i := 96) rfl) rfl
set_option maxRecDepth 100000 in
theorem wd_2_97 : Cond.instanceMethod yX4_takeOver ∈ TB := tb2 (List.mem_of_getElem? (i := 97) rfl) rfl
set_option maxRecDepth 100000 in
theorem wd_2_98 : Cond.selects RX4 yX4_takeOver yX4_takeOver ∈ TB := tb2 (List.mem_of_getElem? (i := 98) rfl) rfl
set_option maxRecDepth 100000 in
theorem wd_2_99 : Cond.code yX4_takeOver cX4_takeOver 2 none ∈ TB := tb2 (List.mem_of_getElem? (i := 99) rfl) rfl
set_option maxRecDepth 100000 in
theorem wd_2_100 : Cond.methodLink RX4 28 arraycopyName ∈ TB := tb2 (List.mem_of_getElem? (i := 100) rfl) rfl
set_option maxRecDepth 100000 in
theorem wd_2_101 : Cond.methodLink RX5 59 yX2_takeOver ∈ TB := tb2 (List.mem_of_getElem? (i := 101) rfl) rfl
set_option maxRecDepth 100000 in
theorem wd_2_102 : Cond.instanceMethod yX2_takeOver ∈ TB := tb2 (List.mem_of_getElem? (i := 102) rfl) rfl
set_option maxRecDepth 100000 in
theorem wd_2_103 : Cond.selects RX2 yX2_takeOver yX2_takeOver ∈ TB := tb2 (List.mem_of_getElem? (i := 103) rfl) rfl
set_option maxRecDepth 100000 in
theorem wd_2_104 : Cond.code yX2_takeOver cX2_takeOver 2 none ∈ TB := tb2 (List.mem_of_getElem? (i := 104) rfl) rfl
set_option maxRecDepth 100000 in
theorem wd_2_120 : Cond.instanceMethod yX5_whyNotNewHead ∈ TB := tb2 (List.mem_of_getElem? (i := 120) rfl) rfl
set_option maxRecDepth 100000 in
theorem wd_2_121 : Cond.selects RX5 yX5_whyNotNewHead yX5_whyNotNewHead ∈ TB := tb2 (List.mem_of_getElem? (i := 121) rfl) rfl
set_option maxRecDepth 100000 in
theorem wd_2_122 : Cond.code yX5_whyNotNewHead cX5_whyNotNewHead 2 (some .int) ∈ TB := tb2 (List.mem_of_getElem? (i := 122) rfl) rfl
set_option maxRecDepth 100000 in
theorem wd_2_124 : Cond.instanceMethod yX5_whyNotNewLabel ∈ TB := tb2 (List.mem_of_getElem? (i := 124) rfl) rfl
set_option maxRecDepth 100000 in
theorem wd_2_125 : Cond.selects RX5 yX5_whyNotNewLabel yX5_whyNotNewLabel ∈ TB := tb2 (List.mem_of_getElem? (i := 125) rfl) rfl
set_option maxRecDepth 100000 in
theorem wd_2_126 : Cond.code yX5_whyNotNewLabel cX5_whyNotNewLabel 3 (some .int) ∈ TB := tb2 (List.mem_of_getElem? (i := 126) rfl) rfl
set_option maxRecDepth 100000 in
theorem wd_2_128 : Cond.instanceMethod yX5_whyNotChangeRow ∈ TB := tb2 (List.mem_of_getElem? (i := 128) rfl) rfl
set_option maxRecDepth 100000 in
theorem wd_2_129 : Cond.selects RX5 yX5_whyNotChangeRow yX5_whyNotChangeRow ∈ TB := tb2 (List.mem_of_getElem? (i := 129) rfl) rfl
set_option maxRecDepth 100000 in
theorem wd_2_130 : Cond.code yX5_whyNotChangeRow cX5_whyNotChangeRow 5 (some .int) ∈ TB := tb2 (List.mem_of_getElem? (i := 130) rfl) rfl
set_option maxRecDepth 100000 in
theorem wd_2_131 : Cond.methodLink RX5 94 yX5_hasLabel ∈ TB := tb2 (List.mem_of_getElem? (i := 131) rfl) rfl
set_option maxRecDepth 100000 in
theorem wd_2_132 : Cond.instanceMethod yX5_hasLabel ∈ TB := tb2 (List.mem_of_getElem? (i := 132) rfl) rfl
set_option maxRecDepth 100000 in
theorem wd_2_133 : Cond.selects RX5 yX5_hasLabel yX5_hasLabel ∈ TB := tb2 (List.mem_of_getElem? (i := 133) rfl) rfl
set_option maxRecDepth 100000 in
theorem wd_2_134 : Cond.code yX5_hasLabel cX5_hasLabel 2 (some .boolean) ∈ TB := tb2 (List.mem_of_getElem? (i := 134) rfl) rfl
set_option maxRecDepth 100000 in
theorem wd_2_135 : Cond.methodLink RX5 98 yX4_allColumns ∈ TB := tb2 (List.mem_of_getElem? (i := 135) rfl) rfl
set_option maxRecDepth 100000 in
theorem wd_2_136 : Cond.instanceMethod yX4_allColumns ∈ TB := tb2 (List.mem_of_getElem? (i := 136) rfl) rfl
set_option maxRecDepth 100000 in
theorem wd_2_137 : Cond.selects RX4 yX4_allColumns yX4_allColumns ∈ TB := tb2 (List.mem_of_getElem? (i := 137) rfl) rfl
set_option maxRecDepth 100000 in
theorem wd_2_138 : Cond.code yX4_allColumns cX4_allColumns 1 (some .int) ∈ TB := tb2 (List.mem_of_getElem? (i := 138) rfl) rfl
set_option maxRecDepth 100000 in
theorem wd_2_140 : Cond.instanceMethod yX5_whyNotNewCustomer ∈ TB := tb2 (List.mem_of_getElem? (i := 140) rfl) rfl
set_option maxRecDepth 100000 in
theorem wd_2_141 : Cond.selects RX5 yX5_whyNotNewCustomer yX5_whyNotNewCustomer ∈ TB := tb2 (List.mem_of_getElem? (i := 141) rfl) rfl
set_option maxRecDepth 100000 in
theorem wd_2_142 : Cond.code yX5_whyNotNewCustomer cX5_whyNotNewCustomer 1 (some .int) ∈ TB := tb2 (List.mem_of_getElem? (i := 142) rfl) rfl
set_option maxRecDepth 100000 in
theorem wd_2_144 : Cond.instanceMethod yX5_whyNotLet ∈ TB := tb2 (List.mem_of_getElem? (i := 144) rfl) rfl
set_option maxRecDepth 100000 in
theorem wd_2_145 : Cond.selects RX5 yX5_whyNotLet yX5_whyNotLet ∈ TB := tb2 (List.mem_of_getElem? (i := 145) rfl) rfl
set_option maxRecDepth 100000 in
theorem wd_2_146 : Cond.code yX5_whyNotLet cX5_whyNotLet 4 (some .int) ∈ TB := tb2 (List.mem_of_getElem? (i := 146) rfl) rfl
set_option maxRecDepth 100000 in
theorem wd_2_147 : Cond.methodLink RX5 119 yX5_hasCustomer ∈ TB := tb2 (List.mem_of_getElem? (i := 147) rfl) rfl
set_option maxRecDepth 100000 in
theorem wd_2_148 : Cond.instanceMethod yX5_hasCustomer ∈ TB := tb2 (List.mem_of_getElem? (i := 148) rfl) rfl
set_option maxRecDepth 100000 in
theorem wd_2_149 : Cond.selects RX5 yX5_hasCustomer yX5_hasCustomer ∈ TB := tb2 (List.mem_of_getElem? (i := 149) rfl) rfl
set_option maxRecDepth 100000 in
theorem wd_2_150 : Cond.code yX5_hasCustomer cX5_hasCustomer 2 (some .boolean) ∈ TB := tb2 (List.mem_of_getElem? (i := 150) rfl) rfl
set_option maxRecDepth 100000 in
theorem wd_2_151 : Cond.methodLink RX5 104 yX5_hasDot ∈ TB := tb2 (List.mem_of_getElem? (i := 151) rfl) rfl
set_option maxRecDepth 100000 in
theorem wd_2_152 : Cond.instanceMethod yX5_hasDot ∈ TB := tb2 (List.mem_of_getElem? (i := 152) rfl) rfl
set_option maxRecDepth 100000 in
theorem wd_2_153 : Cond.selects RX5 yX5_hasDot yX5_hasDot ∈ TB := tb2 (List.mem_of_getElem? (i := 153) rfl) rfl
set_option maxRecDepth 100000 in
theorem wd_2_154 : Cond.code yX5_hasDot cX5_hasDot 2 (some .boolean) ∈ TB := tb2 (List.mem_of_getElem? (i := 154) rfl) rfl
set_option maxRecDepth 100000 in
theorem wd_2_155 : Cond.methodLink RX5 122 yX5_othersRentOneOf ∈ TB := tb2 (List.mem_of_getElem? (i := 155) rfl) rfl
set_option maxRecDepth 100000 in
theorem wd_2_157 : Cond.instanceMethod yX5_othersRentOneOf ∈ TB := tb2 (List.mem_of_getElem? (i := 157) rfl) rfl
set_option maxRecDepth 100000 in
theorem wd_2_158 : Cond.code yX5_othersRentOneOf cX5_othersRentOneOf 5 (some .boolean) ∈ TB := tb2 (List.mem_of_getElem? (i := 158) rfl) rfl
set_option maxRecDepth 100000 in
theorem wd_2_159 : Cond.methodLink RX5 209 yX2_rentsOneOf ∈ TB := tb2 (List.mem_of_getElem? (i := 159) rfl) rfl
set_option maxRecDepth 100000 in
theorem wd_2_160 : Cond.instanceMethod yX2_rentsOneOf ∈ TB := tb2 (List.mem_of_getElem? (i := 160) rfl) rfl
set_option maxRecDepth 100000 in
theorem wd_2_161 : Cond.selects RX2 yX2_rentsOneOf yX2_rentsOneOf ∈ TB := tb2 (List.mem_of_getElem? (i := 161) rfl) rfl
set_option maxRecDepth 100000 in
theorem wd_2_162 : Cond.code yX2_rentsOneOf cX2_rentsOneOf 3 (some .boolean) ∈ TB := tb2 (List.mem_of_getElem? (i := 162) rfl) rfl
set_option maxRecDepth 100000 in
theorem wd_2_164 : Cond.instanceMethod yX5_whyNotPrintAt ∈ TB := tb2 (List.mem_of_getElem? (i := 164) rfl) rfl
set_option maxRecDepth 100000 in
theorem wd_2_165 : Cond.selects RX5 yX5_whyNotPrintAt yX5_whyNotPrintAt ∈ TB := tb2 (List.mem_of_getElem? (i := 165) rfl) rfl
set_option maxRecDepth 100000 in
theorem wd_2_166 : Cond.code yX5_whyNotPrintAt cX5_whyNotPrintAt 5 (some .int) ∈ TB := tb2 (List.mem_of_getElem? (i := 166) rfl) rfl
set_option maxRecDepth 100000 in
theorem wd_2_167 : Cond.methodLink RX5 138 yX5_whyNotAskAbout ∈ TB := tb2 (List.mem_of_getElem? (i := 167) rfl) rfl
set_option maxRecDepth 100000 in
theorem wd_2_168 : Cond.instanceMethod yX5_whyNotAskAbout ∈ TB := tb2 (List.mem_of_getElem? (i := 168) rfl) rfl
set_option maxRecDepth 100000 in
theorem wd_2_169 : Cond.selects RX5 yX5_whyNotAskAbout yX5_whyNotAskAbout ∈ TB := tb2 (List.mem_of_getElem? (i := 169) rfl) rfl
set_option maxRecDepth 100000 in
theorem wd_2_170 : Cond.code yX5_whyNotAskAbout cX5_whyNotAskAbout 4 (some .int) ∈ TB := tb2 (List.mem_of_getElem? (i := 170) rfl) rfl
set_option maxRecDepth 100000 in
theorem wd_2_171 : Cond.methodLink RX5 142 yX5_reasonAt ∈ TB := tb2 (List.mem_of_getElem? (i := 171) rfl) rfl
set_option maxRecDepth 100000 in
theorem wd_2_172 : Cond.instanceMethod yX5_reasonAt ∈ TB := tb2 (List.mem_of_getElem? (i := 172) rfl) rfl
set_option maxRecDepth 100000 in
theorem wd_2_173 : Cond.selects RX5 yX5_reasonAt yX5_reasonAt ∈ TB := tb2 (List.mem_of_getElem? (i := 173) rfl) rfl
set_option maxRecDepth 100000 in
theorem wd_2_174 : Cond.code yX5_reasonAt cX5_reasonAt 5 (some .int) ∈ TB := tb2 (List.mem_of_getElem? (i := 174) rfl) rfl
set_option maxRecDepth 100000 in
theorem wd_2_175 : Cond.methodLink RX5 213 yX4_blackCells ∈ TB := tb2 (List.mem_of_getElem? (i := 175) rfl) rfl
set_option maxRecDepth 100000 in
theorem wd_2_176 : Cond.instanceMethod yX4_blackCells ∈ TB := tb2 (List.mem_of_getElem? (i := 176) rfl) rfl
set_option maxRecDepth 100000 in
theorem wd_2_177 : Cond.selects RX4 yX4_blackCells yX4_blackCells ∈ TB := tb2 (List.mem_of_getElem? (i := 177) rfl) rfl
set_option maxRecDepth 100000 in
theorem wd_2_178 : Cond.code yX4_blackCells cX4_blackCells 3 (some .int) ∈ TB := tb2 (List.mem_of_getElem? (i := 178) rfl) rfl
set_option maxRecDepth 100000 in
theorem wd_2_179 : Cond.methodLink RX4 34 yJ6_bitCount_0f7a4 ∈ TB := tb2 (List.mem_of_getElem? (i := 179) rfl) rfl
set_option maxRecDepth 100000 in
theorem wd_2_180 : Cond.static yJ6_bitCount_0f7a4 ∈ TB := tb2 (List.mem_of_getElem? (i := 180) rfl) rfl
set_option maxRecDepth 100000 in
theorem wd_2_181 : Cond.code yJ6_bitCount_0f7a4 cJ6_bitCount_0f7a4 1 (some .int) ∈ TB := tb2 (List.mem_of_getElem? (i := 181) rfl) rfl
set_option maxRecDepth 100000 in
theorem wd_2_182 : Cond.constant RJ6 265 (1431655765) ∈ TB := tb2 (List.mem_of_getElem? (i := 182) rfl) rfl
set_option maxRecDepth 100000 in
theorem wd_2_183 : Cond.constant RJ6 266 (858993459) ∈ TB := tb2 (List.mem_of_getElem? (i := 183) rfl) rfl
set_option maxRecDepth 100000 in
theorem wd_2_184 : Cond.constant RJ6 267 (252645135) ∈ TB := tb2 (List.mem_of_getElem? (i := 184) rfl) rfl
set_option maxRecDepth 100000 in
theorem wd_2_186 : Cond.instanceMethod yX5_whyNotPrintAtBest ∈ TB := tb2 (List.mem_of_getElem? (i := 186) rfl) rfl
set_option maxRecDepth 100000 in
theorem wd_2_187 : Cond.selects RX5 yX5_whyNotPrintAtBest yX5_whyNotPrintAtBest ∈ TB := tb2 (List.mem_of_getElem? (i := 187) rfl) rfl
set_option maxRecDepth 100000 in
theorem wd_2_188 : Cond.code yX5_whyNotPrintAtBest cX5_whyNotPrintAtBest 3 (some .int) ∈ TB := tb2 (List.mem_of_getElem? (i := 188) rfl) rfl
set_option maxRecDepth 100000 in
theorem wd_2_189 : Cond.methodLink RX5 170 yX5_whyNotPair ∈ TB := tb2 (List.mem_of_getElem? (i := 189) rfl) rfl
set_option maxRecDepth 100000 in
theorem wd_2_190 : Cond.instanceMethod yX5_whyNotPair ∈ TB := tb2 (List.mem_of_getElem? (i := 190) rfl) rfl
set_option maxRecDepth 100000 in
theorem wd_2_191 : Cond.selects RX5 yX5_whyNotPair yX5_whyNotPair ∈ TB := tb2 (List.mem_of_getElem? (i := 191) rfl) rfl
set_option maxRecDepth 100000 in
theorem wd_2_192 : Cond.code yX5_whyNotPair cX5_whyNotPair 3 (some .int) ∈ TB := tb2 (List.mem_of_getElem? (i := 192) rfl) rfl
set_option maxRecDepth 100000 in
theorem wd_2_193 : Cond.methodLink RX5 174 yX5_bestPlace ∈ TB := tb2 (List.mem_of_getElem? (i := 193) rfl) rfl
set_option maxRecDepth 100000 in
theorem wd_2_194 : Cond.instanceMethod yX5_bestPlace ∈ TB := tb2 (List.mem_of_getElem? (i := 194) rfl) rfl
set_option maxRecDepth 100000 in
theorem wd_2_195 : Cond.selects RX5 yX5_bestPlace yX5_bestPlace ∈ TB := tb2 (List.mem_of_getElem? (i := 195) rfl) rfl
set_option maxRecDepth 100000 in
theorem wd_2_196 : Cond.code yX5_bestPlace cX5_bestPlace 9 (some .int) ∈ TB := tb2 (List.mem_of_getElem? (i := 196) rfl) rfl
set_option maxRecDepth 100000 in
theorem wd_2_197 : Cond.methodLink RX5 228 yX5_unreadableAt ∈ TB := tb2 (List.mem_of_getElem? (i := 197) rfl) rfl
set_option maxRecDepth 100000 in
theorem wd_2_198 : Cond.instanceMethod yX5_unreadableAt ∈ TB := tb2 (List.mem_of_getElem? (i := 198) rfl) rfl
set_option maxRecDepth 100000 in
theorem wd_2_199 : Cond.selects RX5 yX5_unreadableAt yX5_unreadableAt ∈ TB := tb2 (List.mem_of_getElem? (i := 199) rfl) rfl
set_option maxRecDepth 100000 in
theorem wd_2_200 : Cond.code yX5_unreadableAt cX5_unreadableAt 3 (some .int) ∈ TB := tb2 (List.mem_of_getElem? (i := 200) rfl) rfl
set_option maxRecDepth 100000 in
theorem wd_2_201 : Cond.methodLink RX5 224 yX3_takePart ∈ TB := tb2 (List.mem_of_getElem? (i := 201) rfl) rfl
set_option maxRecDepth 100000 in
theorem wd_2_202 : Cond.instanceMethod yX3_takePart ∈ TB := tb2 (List.mem_of_getElem? (i := 202) rfl) rfl
set_option maxRecDepth 100000 in
theorem wd_2_203 : Cond.selects RX3 yX3_takePart yX3_takePart ∈ TB := tb2 (List.mem_of_getElem? (i := 203) rfl) rfl
set_option maxRecDepth 100000 in
theorem wd_2_204 : Cond.code yX3_takePart cX3_takePart 4 none ∈ TB := tb2 (List.mem_of_getElem? (i := 204) rfl) rfl
set_option maxRecDepth 100000 in
theorem wd_2_205 : Cond.methodLink RX5 148 yX3_printRows ∈ TB := tb2 (List.mem_of_getElem? (i := 205) rfl) rfl
set_option maxRecDepth 100000 in
theorem wd_2_206 : Cond.instanceMethod yX3_printRows ∈ TB := tb2 (List.mem_of_getElem? (i := 206) rfl) rfl
set_option maxRecDepth 100000 in
theorem wd_2_207 : Cond.selects RX3 yX3_printRows yX3_printRows ∈ TB := tb2 (List.mem_of_getElem? (i := 207) rfl) rfl
set_option maxRecDepth 100000 in
theorem wd_2_208 : Cond.code yX3_printRows cX3_printRows 9 (some .int) ∈ TB := tb2 (List.mem_of_getElem? (i := 208) rfl) rfl
set_option maxRecDepth 100000 in
theorem wd_2_209 : Cond.methodLink RX3 46 yX3_fadeOf ∈ TB := tb2 (List.mem_of_getElem? (i := 209) rfl) rfl
set_option maxRecDepth 100000 in
theorem wd_2_210 : Cond.instanceMethod yX3_fadeOf ∈ TB := tb2 (List.mem_of_getElem? (i := 210) rfl) rfl
set_option maxRecDepth 100000 in
theorem wd_2_211 : Cond.selects RX3 yX3_fadeOf yX3_fadeOf ∈ TB := tb2 (List.mem_of_getElem? (i := 211) rfl) rfl
set_option maxRecDepth 100000 in
theorem wd_2_212 : Cond.code yX3_fadeOf cX3_fadeOf 5 (some .int) ∈ TB := tb2 (List.mem_of_getElem? (i := 212) rfl) rfl
set_option maxRecDepth 100000 in
theorem wd_2_213 : Cond.methodLink RX3 53 yX3_burn ∈ TB := tb2 (List.mem_of_getElem? (i := 213) rfl) rfl
set_option maxRecDepth 100000 in
theorem wd_2_215 : Cond.instanceMethod yX3_burn ∈ TB := tb2 (List.mem_of_getElem? (i := 215) rfl) rfl
set_option maxRecDepth 100000 in
theorem wd_2_216 : Cond.code yX3_burn cX3_burn 4 none ∈ TB := tb2 (List.mem_of_getElem? (i := 216) rfl) rfl
set_option maxRecDepth 100000 in
theorem wd_2_217 : Cond.methodLink RX3 57 yX3_lose ∈ TB := tb2 (List.mem_of_getElem? (i := 217) rfl) rfl
set_option maxRecDepth 100000 in
theorem wd_2_218 : Cond.instanceMethod yX3_lose ∈ TB := tb2 (List.mem_of_getElem? (i := 218) rfl) rfl
set_option maxRecDepth 100000 in
theorem wd_2_219 : Cond.selects RX3 yX3_lose yX3_lose ∈ TB := tb2 (List.mem_of_getElem? (i := 219) rfl) rfl
set_option maxRecDepth 100000 in
theorem wd_2_220 : Cond.code yX3_lose cX3_lose 3 none ∈ TB := tb2 (List.mem_of_getElem? (i := 220) rfl) rfl
set_option maxRecDepth 100000 in
theorem wd_2_221 : Cond.methodLink RX5 145 yX5_priceAt ∈ TB := tb2 (List.mem_of_getElem? (i := 221) rfl) rfl
set_option maxRecDepth 100000 in
theorem wd_2_222 : Cond.instanceMethod yX5_priceAt ∈ TB := tb2 (List.mem_of_getElem? (i := 222) rfl) rfl
set_option maxRecDepth 100000 in
theorem wd_2_223 : Cond.selects RX5 yX5_priceAt yX5_priceAt ∈ TB := tb2 (List.mem_of_getElem? (i := 223) rfl) rfl
set_option maxRecDepth 100000 in
theorem wd_2_224 : Cond.code yX5_priceAt cX5_priceAt 8 (some .int) ∈ TB := tb2 (List.mem_of_getElem? (i := 224) rfl) rfl
set_option maxRecDepth 100000 in
theorem wd_2_225 : Cond.methodLink RX5 216 yX2_rentsAllOf ∈ TB := tb2 (List.mem_of_getElem? (i := 225) rfl) rfl
set_option maxRecDepth 100000 in
theorem wd_2_226 : Cond.instanceMethod yX2_rentsAllOf ∈ TB := tb2 (List.mem_of_getElem? (i := 226) rfl) rfl
set_option maxRecDepth 100000 in
theorem wd_2_227 : Cond.selects RX2 yX2_rentsAllOf yX2_rentsAllOf ∈ TB := tb2 (List.mem_of_getElem? (i := 227) rfl) rfl
set_option maxRecDepth 100000 in
theorem wd_2_228 : Cond.code yX2_rentsAllOf cX2_rentsAllOf 3 (some .boolean) ∈ TB := tb2 (List.mem_of_getElem? (i := 228) rfl) rfl
set_option maxRecDepth 100000 in
theorem wd_2_229 : Cond.methodLink RX5 206 yX3_wearSum ∈ TB := tb2 (List.mem_of_getElem? (i := 229) rfl) rfl
set_option maxRecDepth 100000 in
theorem wd_2_230 : Cond.instanceMethod yX3_wearSum ∈ TB := tb2 (List.mem_of_getElem? (i := 230) rfl) rfl
set_option maxRecDepth 100000 in
theorem wd_2_231 : Cond.selects RX3 yX3_wearSum yX3_wearSum ∈ TB := tb2 (List.mem_of_getElem? (i := 231) rfl) rfl
set_option maxRecDepth 100000 in
theorem wd_2_232 : Cond.code yX3_wearSum cX3_wearSum 5 (some .int) ∈ TB := tb2 (List.mem_of_getElem? (i := 232) rfl) rfl
set_option maxRecDepth 100000 in
theorem wd_2_233 : Cond.methodLink RX5 219 Lib.Math.min.name ∈ TB := tb2 (List.mem_of_getElem? (i := 233) rfl) rfl
set_option maxRecDepth 100000 in
theorem wd_2_234 : Cond.static Lib.Math.min.name ∈ TB := tb2 (List.mem_of_getElem? (i := 234) rfl) rfl
set_option maxRecDepth 100000 in
theorem wd_2_235 : Cond.code Lib.Math.min.name Lib.Math.min.code 2 (some .int) ∈ TB := tb2 (List.mem_of_getElem? (i := 235) rfl) rfl
set_option maxRecDepth 100000 in
theorem wd_2_237 : Cond.instanceMethod yX5_whyNotPassLines ∈ TB := tb2 (List.mem_of_getElem? (i := 237) rfl) rfl
set_option maxRecDepth 100000 in
theorem wd_2_238 : Cond.selects RX5 yX5_whyNotPassLines yX5_whyNotPassLines ∈ TB := tb2 (List.mem_of_getElem? (i := 238) rfl) rfl
set_option maxRecDepth 100000 in
theorem wd_2_239 : Cond.code yX5_whyNotPassLines cX5_whyNotPassLines 2 (some .int) ∈ TB := tb2 (List.mem_of_getElem? (i := 239) rfl) rfl
set_option maxRecDepth 100000 in
theorem wd_3_1 : Cond.instanceMethod yX5_whyNotNewDot ∈ TB := tb3 (List.mem_of_getElem? (i := 1) rfl) rfl
set_option maxRecDepth 100000 in
theorem wd_3_2 : Cond.selects RX5 yX5_whyNotNewDot yX5_whyNotNewDot ∈ TB := tb3 (List.mem_of_getElem? (i := 2) rfl) rfl
set_option maxRecDepth 100000 in
theorem wd_3_3 : Cond.code yX5_whyNotNewDot cX5_whyNotNewDot 2 (some .int) ∈ TB := tb3 (List.mem_of_getElem? (i := 3) rfl) rfl
set_option maxRecDepth 100000 in
theorem wd_3_20 : Cond.methodLink RX5 71 yX5_allWear ∈ TB := tb3 (List.mem_of_getElem? (i := 20) rfl) rfl
set_option maxRecDepth 100000 in
theorem wd_3_22 : Cond.instanceMethod yX5_allWear ∈ TB := tb3 (List.mem_of_getElem? (i := 22) rfl) rfl
set_option maxRecDepth 100000 in
theorem wd_3_23 : Cond.code yX5_allWear cX5_allWear 1 (some .int) ∈ TB := tb3 (List.mem_of_getElem? (i := 23) rfl) rfl
set_option maxRecDepth 100000 in
theorem wd_3_24 : Cond.methodLink RX5 75 yX3_renewAll ∈ TB := tb3 (List.mem_of_getElem? (i := 24) rfl) rfl
set_option maxRecDepth 100000 in
theorem wd_3_25 : Cond.instanceMethod yX3_renewAll ∈ TB := tb3 (List.mem_of_getElem? (i := 25) rfl) rfl
set_option maxRecDepth 100000 in
theorem wd_3_26 : Cond.selects RX3 yX3_renewAll yX3_renewAll ∈ TB := tb3 (List.mem_of_getElem? (i := 26) rfl) rfl
set_option maxRecDepth 100000 in
theorem wd_3_27 : Cond.code yX3_renewAll cX3_renewAll 3 none ∈ TB := tb3 (List.mem_of_getElem? (i := 27) rfl) rfl
set_option maxRecDepth 100000 in
theorem wd_3_28 : Cond.methodLink RX3 34 yX3_renew ∈ TB := tb3 (List.mem_of_getElem? (i := 28) rfl) rfl
set_option maxRecDepth 100000 in
theorem wd_3_29 : Cond.instanceMethod yX3_renew ∈ TB := tb3 (List.mem_of_getElem? (i := 29) rfl) rfl
set_option maxRecDepth 100000 in
theorem wd_3_30 : Cond.selects RX3 yX3_renew yX3_renew ∈ TB := tb3 (List.mem_of_getElem? (i := 30) rfl) rfl
set_option maxRecDepth 100000 in
theorem wd_3_31 : Cond.code yX3_renew cX3_renew 2 none ∈ TB := tb3 (List.mem_of_getElem? (i := 31) rfl) rfl
set_option maxRecDepth 100000 in
theorem wd_3_32 : Cond.methodLink RX5 79 yX2_rentNothing ∈ TB := tb3 (List.mem_of_getElem? (i := 32) rfl) rfl
set_option maxRecDepth 100000 in
theorem wd_3_33 : Cond.instanceMethod yX2_rentNothing ∈ TB := tb3 (List.mem_of_getElem? (i := 33) rfl) rfl
set_option maxRecDepth 100000 in
theorem wd_3_34 : Cond.selects RX2 yX2_rentNothing yX2_rentNothing ∈ TB := tb3 (List.mem_of_getElem? (i := 34) rfl) rfl
set_option maxRecDepth 100000 in
theorem wd_3_35 : Cond.code yX2_rentNothing cX2_rentNothing 1 none ∈ TB := tb3 (List.mem_of_getElem? (i := 35) rfl) rfl
set_option maxRecDepth 100000 in
theorem wd_3_52 : Cond.methodLink RX5 132 yX5_allRented ∈ TB := tb3 (List.mem_of_getElem? (i := 52) rfl) rfl
set_option maxRecDepth 100000 in
theorem wd_3_54 : Cond.instanceMethod yX5_allRented ∈ TB := tb3 (List.mem_of_getElem? (i := 54) rfl) rfl
set_option maxRecDepth 100000 in
theorem wd_3_55 : Cond.code yX5_allRented cX5_allRented 3 (some .int) ∈ TB := tb3 (List.mem_of_getElem? (i := 55) rfl) rfl
set_option maxRecDepth 100000 in
theorem wd_3_56 : Cond.methodLink RX5 135 yX2_rented ∈ TB := tb3 (List.mem_of_getElem? (i := 56) rfl) rfl
set_option maxRecDepth 100000 in
theorem wd_3_57 : Cond.instanceMethod yX2_rented ∈ TB := tb3 (List.mem_of_getElem? (i := 57) rfl) rfl
set_option maxRecDepth 100000 in
theorem wd_3_58 : Cond.selects RX2 yX2_rented yX2_rented ∈ TB := tb3 (List.mem_of_getElem? (i := 58) rfl) rfl
set_option maxRecDepth 100000 in
theorem wd_3_59 : Cond.code yX2_rented cX2_rented 1 (some .int) ∈ TB := tb3 (List.mem_of_getElem? (i := 59) rfl) rfl
set_option maxRecDepth 100000 in
theorem wd_3_60 : Cond.methodLink RX5 177 yX5_printAt ∈ TB := tb3 (List.mem_of_getElem? (i := 60) rfl) rfl
set_option maxRecDepth 100000 in
theorem wd_3_61 : Cond.instanceMethod yX5_printAt ∈ TB := tb3 (List.mem_of_getElem? (i := 61) rfl) rfl
set_option maxRecDepth 100000 in
theorem wd_3_62 : Cond.selects RX5 yX5_printAt yX5_printAt ∈ TB := tb3 (List.mem_of_getElem? (i := 62) rfl) rfl
set_option maxRecDepth 100000 in
theorem wd_3_63 : Cond.code yX5_printAt cX5_printAt 6 (some .int) ∈ TB := tb3 (List.mem_of_getElem? (i := 63) rfl) rfl
set_option maxRecDepth 100000 in
theorem wd_3_64 : Cond.methodLink RX5 152 yX5_book ∈ TB := tb3 (List.mem_of_getElem? (i := 64) rfl) rfl
set_option maxRecDepth 100000 in
theorem wd_3_66 : Cond.instanceMethod yX5_book ∈ TB := tb3 (List.mem_of_getElem? (i := 66) rfl) rfl
set_option maxRecDepth 100000 in
theorem wd_3_67 : Cond.code yX5_book cX5_book 5 none ∈ TB := tb3 (List.mem_of_getElem? (i := 67) rfl) rfl
set_option maxRecDepth 100000 in
theorem wd_3_76 : Cond.methodLink RX5 113 yX3_lose ∈ TB := tb3 (List.mem_of_getElem? (i := 76) rfl) rfl
set_option maxRecDepth 100000 in
theorem wd_3_77 : Cond.methodLink RX5 116 yX3_heatSum ∈ TB := tb3 (List.mem_of_getElem? (i := 77) rfl) rfl
set_option maxRecDepth 100000 in
theorem wd_3_78 : Cond.instanceMethod yX3_heatSum ∈ TB := tb3 (List.mem_of_getElem? (i := 78) rfl) rfl
set_option maxRecDepth 100000 in
theorem wd_3_79 : Cond.selects RX3 yX3_heatSum yX3_heatSum ∈ TB := tb3 (List.mem_of_getElem? (i := 79) rfl) rfl
set_option maxRecDepth 100000 in
theorem wd_3_80 : Cond.code yX3_heatSum cX3_heatSum 3 (some .int) ∈ TB := tb3 (List.mem_of_getElem? (i := 80) rfl) rfl
set_option maxRecDepth 100000 in
theorem wd_3_85 : Cond.methodLink RX5 110 yX3_renew ∈ TB := tb3 (List.mem_of_getElem? (i := 85) rfl) rfl
set_option maxRecDepth 100000 in
theorem wd_3_94 : Cond.constantLong RX7 216 (43448) ∈ TB := tb3 (List.mem_of_getElem? (i := 94) rfl) rfl
set_option maxRecDepth 100000 in
theorem wd_3_95 : Cond.methodLink RX7 218 yX7_mix ∈ TB := tb3 (List.mem_of_getElem? (i := 95) rfl) rfl
set_option maxRecDepth 100000 in
theorem wd_3_96 : Cond.static yX7_mix ∈ TB := tb3 (List.mem_of_getElem? (i := 96) rfl) rfl
set_option maxRecDepth 100000 in
theorem wd_3_97 : Cond.code yX7_mix cX7_mix 4 (some .long) ∈ TB := tb3 (List.mem_of_getElem? (i := 97) rfl) rfl
set_option maxRecDepth 100000 in
theorem wd_3_98 : Cond.constantLong RX7 247 (31) ∈ TB := tb3 (List.mem_of_getElem? (i := 98) rfl) rfl
set_option maxRecDepth 100000 in
theorem wd_3_210 : Cond.methodLink RX5 197 yX5_allPrinted ∈ TB := tb3 (List.mem_of_getElem? (i := 210) rfl) rfl
set_option maxRecDepth 100000 in
theorem wd_3_212 : Cond.instanceMethod yX5_allPrinted ∈ TB := tb3 (List.mem_of_getElem? (i := 212) rfl) rfl
set_option maxRecDepth 100000 in
theorem wd_3_213 : Cond.code yX5_allPrinted cX5_allPrinted 3 (some .int) ∈ TB := tb3 (List.mem_of_getElem? (i := 213) rfl) rfl
set_option maxRecDepth 100000 in
theorem wd_3_214 : Cond.methodLink RX5 200 yX5_allFailed ∈ TB := tb3 (List.mem_of_getElem? (i := 214) rfl) rfl
set_option maxRecDepth 100000 in
theorem wd_3_216 : Cond.instanceMethod yX5_allFailed ∈ TB := tb3 (List.mem_of_getElem? (i := 216) rfl) rfl
set_option maxRecDepth 100000 in
theorem wd_3_217 : Cond.code yX5_allFailed cX5_allFailed 3 (some .int) ∈ TB := tb3 (List.mem_of_getElem? (i := 217) rfl) rfl
set_option maxRecDepth 100000 in
theorem wd_3_218 : Cond.methodLink RX5 203 yX5_allEarned ∈ TB := tb3 (List.mem_of_getElem? (i := 218) rfl) rfl
set_option maxRecDepth 100000 in
theorem wd_3_220 : Cond.instanceMethod yX5_allEarned ∈ TB := tb3 (List.mem_of_getElem? (i := 220) rfl) rfl
set_option maxRecDepth 100000 in
theorem wd_3_221 : Cond.code yX5_allEarned cX5_allEarned 3 (some .int) ∈ TB := tb3 (List.mem_of_getElem? (i := 221) rfl) rfl
set_option maxRecDepth 100000 in
theorem wd_3_226 : Cond.methodLink RX7 112 yX5_dotValue ∈ TB := tb3 (List.mem_of_getElem? (i := 226) rfl) rfl
set_option maxRecDepth 100000 in
theorem wd_3_227 : Cond.instanceMethod yX5_dotValue ∈ TB := tb3 (List.mem_of_getElem? (i := 227) rfl) rfl
set_option maxRecDepth 100000 in
theorem wd_3_228 : Cond.selects RX5 yX5_dotValue yX5_dotValue ∈ TB := tb3 (List.mem_of_getElem? (i := 228) rfl) rfl
set_option maxRecDepth 100000 in
theorem wd_3_229 : Cond.code yX5_dotValue cX5_dotValue 3 (some .int) ∈ TB := tb3 (List.mem_of_getElem? (i := 229) rfl) rfl
set_option maxRecDepth 100000 in
theorem wd_3_230 : Cond.methodLink RX5 183 yX5_renterOf ∈ TB := tb3 (List.mem_of_getElem? (i := 230) rfl) rfl
set_option maxRecDepth 100000 in
theorem wd_3_232 : Cond.instanceMethod yX5_renterOf ∈ TB := tb3 (List.mem_of_getElem? (i := 232) rfl) rfl
set_option maxRecDepth 100000 in
theorem wd_3_233 : Cond.code yX5_renterOf cX5_renterOf 3 (some .int) ∈ TB := tb3 (List.mem_of_getElem? (i := 233) rfl) rfl
set_option maxRecDepth 100000 in
theorem wd_3_234 : Cond.methodLink RX5 190 yX3_fadeOf ∈ TB := tb3 (List.mem_of_getElem? (i := 234) rfl) rfl
set_option maxRecDepth 100000 in
theorem wd_3_239 : Cond.methodLink RX7 122 yX4_value ∈ TB := tb3 (List.mem_of_getElem? (i := 239) rfl) rfl
set_option maxRecDepth 100000 in
theorem wd_4_0 : Cond.instanceMethod yX4_value ∈ TB := tb4 (List.mem_of_getElem? (i := 0) rfl) rfl
set_option maxRecDepth 100000 in
theorem wd_4_1 : Cond.selects RX4 yX4_value yX4_value ∈ TB := tb4 (List.mem_of_getElem? (i := 1) rfl) rfl
set_option maxRecDepth 100000 in
theorem wd_4_2 : Cond.code yX4_value cX4_value 2 (some .int) ∈ TB := tb4 (List.mem_of_getElem? (i := 2) rfl) rfl
set_option maxRecDepth 100000 in
theorem wd_4_3 : Cond.methodLink RX4 44 yX4_blackCells ∈ TB := tb4 (List.mem_of_getElem? (i := 3) rfl) rfl
set_option maxRecDepth 100000 in
theorem wd_4_4 : Cond.methodLink RX4 47 yX4_emptyColumns ∈ TB := tb4 (List.mem_of_getElem? (i := 4) rfl) rfl
set_option maxRecDepth 100000 in
theorem wd_4_5 : Cond.instanceMethod yX4_emptyColumns ∈ TB := tb4 (List.mem_of_getElem? (i := 5) rfl) rfl
set_option maxRecDepth 100000 in
theorem wd_4_6 : Cond.selects RX4 yX4_emptyColumns yX4_emptyColumns ∈ TB := tb4 (List.mem_of_getElem? (i := 6) rfl) rfl
set_option maxRecDepth 100000 in
theorem wd_4_7 : Cond.code yX4_emptyColumns cX4_emptyColumns 3 (some .int) ∈ TB := tb4 (List.mem_of_getElem? (i := 7) rfl) rfl
set_option maxRecDepth 100000 in
theorem wd_4_8 : Cond.methodLink RX4 40 yX4_allColumns ∈ TB := tb4 (List.mem_of_getElem? (i := 8) rfl) rfl
set_option maxRecDepth 100000 in
theorem wd_4_13 : Cond.methodLink RX7 138 yX2_value ∈ TB := tb4 (List.mem_of_getElem? (i := 13) rfl) rfl
set_option maxRecDepth 100000 in
theorem wd_4_14 : Cond.instanceMethod yX2_value ∈ TB := tb4 (List.mem_of_getElem? (i := 14) rfl) rfl
set_option maxRecDepth 100000 in
theorem wd_4_15 : Cond.selects RX2 yX2_value yX2_value ∈ TB := tb4 (List.mem_of_getElem? (i := 15) rfl) rfl
set_option maxRecDepth 100000 in
theorem wd_4_16 : Cond.code yX2_value cX2_value 2 (some .int) ∈ TB := tb4 (List.mem_of_getElem? (i := 16) rfl) rfl
set_option maxRecDepth 100000 in
theorem wd_4_17 : Cond.methodLink RX7 163 yX5_bestPlace ∈ TB := tb4 (List.mem_of_getElem? (i := 17) rfl) rfl
set_option maxRecDepth 100000 in
theorem wd_4_27 : Cond.methodLink RX7 32 yX5_whyNotNewHead ∈ TB := tb4 (List.mem_of_getElem? (i := 27) rfl) rfl
set_option maxRecDepth 100000 in
theorem wd_4_46 : Cond.methodLink RX7 53 yX5_whyNotNewLabel ∈ TB := tb4 (List.mem_of_getElem? (i := 46) rfl) rfl
set_option maxRecDepth 100000 in
theorem wd_4_56 : Cond.methodLink RX7 59 yX5_whyNotChangeRow ∈ TB := tb4 (List.mem_of_getElem? (i := 56) rfl) rfl
set_option maxRecDepth 100000 in
theorem wd_4_65 : Cond.methodLink RX7 66 yX5_whyNotNewDot ∈ TB := tb4 (List.mem_of_getElem? (i := 65) rfl) rfl
set_option maxRecDepth 100000 in
theorem wd_4_74 : Cond.methodLink RX7 72 yX5_whyNotPassLines ∈ TB := tb4 (List.mem_of_getElem? (i := 74) rfl) rfl
set_option maxRecDepth 100000 in
theorem wd_4_83 : Cond.methodLink RX7 78 yX5_whyNotNewCustomer ∈ TB := tb4 (List.mem_of_getElem? (i := 83) rfl) rfl
set_option maxRecDepth 100000 in
theorem wd_4_92 : Cond.methodLink RX7 85 yX5_whyNotLet ∈ TB := tb4 (List.mem_of_getElem? (i := 92) rfl) rfl
set_option maxRecDepth 100000 in
theorem wd_4_101 : Cond.methodLink RX7 91 yX5_whyNotEndLet ∈ TB := tb4 (List.mem_of_getElem? (i := 101) rfl) rfl
set_option maxRecDepth 100000 in
theorem wd_4_102 : Cond.instanceMethod yX5_whyNotEndLet ∈ TB := tb4 (List.mem_of_getElem? (i := 102) rfl) rfl
set_option maxRecDepth 100000 in
theorem wd_4_103 : Cond.selects RX5 yX5_whyNotEndLet yX5_whyNotEndLet ∈ TB := tb4 (List.mem_of_getElem? (i := 103) rfl) rfl
set_option maxRecDepth 100000 in
theorem wd_4_104 : Cond.code yX5_whyNotEndLet cX5_whyNotEndLet 2 (some .int) ∈ TB := tb4 (List.mem_of_getElem? (i := 104) rfl) rfl
set_option maxRecDepth 100000 in
theorem wd_4_116 : Cond.methodLink RX7 97 yX5_whyNotPrintAt ∈ TB := tb4 (List.mem_of_getElem? (i := 116) rfl) rfl
set_option maxRecDepth 100000 in
theorem wd_4_125 : Cond.methodLink RX7 103 yX5_whyNotPrintAtBest ∈ TB := tb4 (List.mem_of_getElem? (i := 125) rfl) rfl
set_option maxRecDepth 100000 in
theorem wd_4_134 : Cond.methodLink RX7 109 yX5_whyNotDotValue ∈ TB := tb4 (List.mem_of_getElem? (i := 134) rfl) rfl
set_option maxRecDepth 100000 in
theorem wd_4_135 : Cond.instanceMethod yX5_whyNotDotValue ∈ TB := tb4 (List.mem_of_getElem? (i := 135) rfl) rfl
set_option maxRecDepth 100000 in
theorem wd_4_136 : Cond.selects RX5 yX5_whyNotDotValue yX5_whyNotDotValue ∈ TB := tb4 (List.mem_of_getElem? (i := 136) rfl) rfl
set_option maxRecDepth 100000 in
theorem wd_4_137 : Cond.code yX5_whyNotDotValue cX5_whyNotDotValue 3 (some .int) ∈ TB := tb4 (List.mem_of_getElem? (i := 137) rfl) rfl
set_option maxRecDepth 100000 in
theorem wd_4_145 : Cond.methodLink RX7 115 yX5_whyNotLabelValue ∈ TB := tb4 (List.mem_of_getElem? (i := 145) rfl) rfl
set_option maxRecDepth 100000 in
theorem wd_4_146 : Cond.instanceMethod yX5_whyNotLabelValue ∈ TB := tb4 (List.mem_of_getElem? (i := 146) rfl) rfl
set_option maxRecDepth 100000 in
theorem wd_4_147 : Cond.selects RX5 yX5_whyNotLabelValue yX5_whyNotLabelValue ∈ TB := tb4 (List.mem_of_getElem? (i := 147) rfl) rfl
set_option maxRecDepth 100000 in
theorem wd_4_148 : Cond.code yX5_whyNotLabelValue cX5_whyNotLabelValue 4 (some .int) ∈ TB := tb4 (List.mem_of_getElem? (i := 148) rfl) rfl
set_option maxRecDepth 100000 in
theorem wd_4_163 : Cond.methodLink RX7 131 yX5_whyNotCustomerValue ∈ TB := tb4 (List.mem_of_getElem? (i := 163) rfl) rfl
set_option maxRecDepth 100000 in
theorem wd_4_164 : Cond.instanceMethod yX5_whyNotCustomerValue ∈ TB := tb4 (List.mem_of_getElem? (i := 164) rfl) rfl
set_option maxRecDepth 100000 in
theorem wd_4_165 : Cond.selects RX5 yX5_whyNotCustomerValue yX5_whyNotCustomerValue ∈ TB := tb4 (List.mem_of_getElem? (i := 165) rfl) rfl
set_option maxRecDepth 100000 in
theorem wd_4_166 : Cond.code yX5_whyNotCustomerValue cX5_whyNotCustomerValue 3 (some .int) ∈ TB := tb4 (List.mem_of_getElem? (i := 166) rfl) rfl
set_option maxRecDepth 100000 in
theorem wd_4_178 : Cond.methodLink RX7 148 yX5_whyNotAskAbout ∈ TB := tb4 (List.mem_of_getElem? (i := 178) rfl) rfl
set_option maxRecDepth 100000 in
theorem wd_4_203 : Cond.methodLink RX7 160 yX5_whyNotPair ∈ TB := tb4 (List.mem_of_getElem? (i := 203) rfl) rfl
set_option maxRecDepth 100000 in
theorem wd_4_222 : Cond.methodLink RX7 176 yX1_whyNotAppend ∈ TB := tb4 (List.mem_of_getElem? (i := 222) rfl) rfl
set_option maxRecDepth 100000 in
theorem wd_4_223 : Cond.instanceMethod yX1_whyNotAppend ∈ TB := tb4 (List.mem_of_getElem? (i := 223) rfl) rfl
set_option maxRecDepth 100000 in
theorem wd_4_224 : Cond.selects RX1 yX1_whyNotAppend yX1_whyNotAppend ∈ TB := tb4 (List.mem_of_getElem? (i := 224) rfl) rfl
set_option maxRecDepth 100000 in
theorem wd_4_225 : Cond.code yX1_whyNotAppend cX1_whyNotAppend 2 (some .int) ∈ TB := tb4 (List.mem_of_getElem? (i := 225) rfl) rfl
set_option maxRecDepth 100000 in
theorem wd_5_3 : Cond.fieldLink RX8 7 RX8 "s" "[I" ∈ TB := tb5 (List.mem_of_getElem? (i := 3) rfl) rfl
set_option maxRecDepth 100000 in
theorem wd_5_4 : Cond.fieldLink RX8 13 RX8 "w" "[I" ∈ TB := tb5 (List.mem_of_getElem? (i := 4) rfl) rfl
set_option maxRecDepth 100000 in
theorem wd_5_5 : Cond.fieldLink RX8 16 RX8 "past" "[I" ∈ TB := tb5 (List.mem_of_getElem? (i := 5) rfl) rfl
set_option maxRecDepth 100000 in
theorem wd_5_6 : Cond.fieldLink RX8 33 RX8 "pasts" "I" ∈ TB := tb5 (List.mem_of_getElem? (i := 6) rfl) rfl
set_option maxRecDepth 100000 in
theorem wd_5_7 : Cond.fieldLink RX8 29 RX8 "runs" "Z" ∈ TB := tb5 (List.mem_of_getElem? (i := 7) rfl) rfl
set_option maxRecDepth 100000 in
theorem wd_5_8 : Cond.fieldLink RX8 19 RX8 "text" "[I" ∈ TB := tb5 (List.mem_of_getElem? (i := 8) rfl) rfl
set_option maxRecDepth 100000 in
theorem wd_5_9 : Cond.fieldLink RX8 146 RX8 "typed" "I" ∈ TB := tb5 (List.mem_of_getElem? (i := 9) rfl) rfl
set_option maxRecDepth 100000 in
theorem wd_5_10 : Cond.fieldLink RX8 25 RX8 "refused" "I" ∈ TB := tb5 (List.mem_of_getElem? (i := 10) rfl) rfl
set_option maxRecDepth 100000 in
theorem wd_5_11 : Cond.fieldLink RX8 155 RX8 "spot" "I" ∈ TB := tb5 (List.mem_of_getElem? (i := 11) rfl) rfl
set_option maxRecDepth 100000 in
theorem wd_5_12 : Cond.fieldLink RX8 181 RX8 "command" "I" ∈ TB := tb5 (List.mem_of_getElem? (i := 12) rfl) rfl
set_option maxRecDepth 100000 in
theorem wd_5_13 : Cond.fieldLink RX8 22 RX8 "read" "[I" ∈ TB := tb5 (List.mem_of_getElem? (i := 13) rfl) rfl
set_option maxRecDepth 100000 in
theorem wd_5_42 : Cond.instanceMethod yX8_begin ∈ TB := tb5 (List.mem_of_getElem? (i := 42) rfl) rfl
set_option maxRecDepth 100000 in
theorem wd_5_43 : Cond.selects RX8 yX8_begin yX8_begin ∈ TB := tb5 (List.mem_of_getElem? (i := 43) rfl) rfl
set_option maxRecDepth 100000 in
theorem wd_5_44 : Cond.code yX8_begin cX8_begin 4 (some .int) ∈ TB := tb5 (List.mem_of_getElem? (i := 44) rfl) rfl
set_option maxRecDepth 100000 in
theorem wd_5_45 : Cond.methodLink RX8 36 yX8_in ∈ TB := tb5 (List.mem_of_getElem? (i := 45) rfl) rfl
set_option maxRecDepth 100000 in
theorem wd_5_46 : Cond.static yX8_in ∈ TB := tb5 (List.mem_of_getElem? (i := 46) rfl) rfl
set_option maxRecDepth 100000 in
theorem wd_5_47 : Cond.code yX8_in cX8_in 3 (some .boolean) ∈ TB := tb5 (List.mem_of_getElem? (i := 47) rfl) rfl
set_option maxRecDepth 100000 in
theorem wd_5_48 : Cond.methodLink RX8 44 yX8_throwsAt ∈ TB := tb5 (List.mem_of_getElem? (i := 48) rfl) rfl
set_option maxRecDepth 100000 in
theorem wd_5_50 : Cond.instanceMethod yX8_throwsAt ∈ TB := tb5 (List.mem_of_getElem? (i := 50) rfl) rfl
set_option maxRecDepth 100000 in
theorem wd_5_51 : Cond.code yX8_throwsAt cX8_throwsAt 2 (some .boolean) ∈ TB := tb5 (List.mem_of_getElem? (i := 51) rfl) rfl
set_option maxRecDepth 100000 in
theorem wd_5_52 : Cond.methodLink RX8 48 yX8_saves ∈ TB := tb5 (List.mem_of_getElem? (i := 52) rfl) rfl
set_option maxRecDepth 100000 in
theorem wd_5_54 : Cond.instanceMethod yX8_saves ∈ TB := tb5 (List.mem_of_getElem? (i := 54) rfl) rfl
set_option maxRecDepth 100000 in
theorem wd_5_55 : Cond.code yX8_saves cX8_saves 2 none ∈ TB := tb5 (List.mem_of_getElem? (i := 55) rfl) rfl
set_option maxRecDepth 100000 in
theorem wd_5_56 : Cond.methodLink RX8 51 yX8_sumOf ∈ TB := tb5 (List.mem_of_getElem? (i := 56) rfl) rfl
set_option maxRecDepth 100000 in
theorem wd_5_58 : Cond.instanceMethod yX8_sumOf ∈ TB := tb5 (List.mem_of_getElem? (i := 58) rfl) rfl
set_option maxRecDepth 100000 in
theorem wd_5_59 : Cond.code yX8_sumOf cX8_sumOf 4 (some .int) ∈ TB := tb5 (List.mem_of_getElem? (i := 59) rfl) rfl
set_option maxRecDepth 100000 in
theorem wd_5_60 : Cond.methodLink RX8 40 yX8_dotOf ∈ TB := tb5 (List.mem_of_getElem? (i := 60) rfl) rfl
set_option maxRecDepth 100000 in
theorem wd_5_61 : Cond.static yX8_dotOf ∈ TB := tb5 (List.mem_of_getElem? (i := 61) rfl) rfl
set_option maxRecDepth 100000 in
theorem wd_5_62 : Cond.code yX8_dotOf cX8_dotOf 3 (some .int) ∈ TB := tb5 (List.mem_of_getElem? (i := 62) rfl) rfl
set_option maxRecDepth 100000 in
theorem wd_5_63 : Cond.methodLink RX8 55 yX8_frees ∈ TB := tb5 (List.mem_of_getElem? (i := 63) rfl) rfl
set_option maxRecDepth 100000 in
theorem wd_5_65 : Cond.instanceMethod yX8_frees ∈ TB := tb5 (List.mem_of_getElem? (i := 65) rfl) rfl
set_option maxRecDepth 100000 in
theorem wd_5_66 : Cond.code yX8_frees cX8_frees 2 none ∈ TB := tb5 (List.mem_of_getElem? (i := 66) rfl) rfl
set_option maxRecDepth 100000 in
theorem wd_5_68 : Cond.instanceMethod yX8_set ∈ TB := tb5 (List.mem_of_getElem? (i := 68) rfl) rfl
set_option maxRecDepth 100000 in
theorem wd_5_69 : Cond.selects RX8 yX8_set yX8_set ∈ TB := tb5 (List.mem_of_getElem? (i := 69) rfl) rfl
set_option maxRecDepth 100000 in
theorem wd_5_70 : Cond.code yX8_set cX8_set 4 (some .int) ∈ TB := tb5 (List.mem_of_getElem? (i := 70) rfl) rfl
set_option maxRecDepth 100000 in
theorem wd_5_71 : Cond.methodLink RX8 59 yX8_least ∈ TB := tb5 (List.mem_of_getElem? (i := 71) rfl) rfl
set_option maxRecDepth 100000 in
theorem wd_5_72 : Cond.static yX8_least ∈ TB := tb5 (List.mem_of_getElem? (i := 72) rfl) rfl
set_option maxRecDepth 100000 in
theorem wd_5_73 : Cond.code yX8_least cX8_least 1 (some .int) ∈ TB := tb5 (List.mem_of_getElem? (i := 73) rfl) rfl
set_option maxRecDepth 100000 in
theorem wd_5_74 : Cond.methodLink RX8 62 yX8_most ∈ TB := tb5 (List.mem_of_getElem? (i := 74) rfl) rfl
set_option maxRecDepth 100000 in
theorem wd_5_75 : Cond.static yX8_most ∈ TB := tb5 (List.mem_of_getElem? (i := 75) rfl) rfl
set_option maxRecDepth 100000 in
theorem wd_5_76 : Cond.code yX8_most cX8_most 1 (some .int) ∈ TB := tb5 (List.mem_of_getElem? (i := 76) rfl) rfl
set_option maxRecDepth 100000 in
theorem wd_5_78 : Cond.instanceMethod yX8_addLabel ∈ TB := tb5 (List.mem_of_getElem? (i := 78) rfl) rfl
set_option maxRecDepth 100000 in
theorem wd_5_79 : Cond.selects RX8 yX8_addLabel yX8_addLabel ∈ TB := tb5 (List.mem_of_getElem? (i := 79) rfl) rfl
set_option maxRecDepth 100000 in
theorem wd_5_80 : Cond.code yX8_addLabel cX8_addLabel 5 (some .int) ∈ TB := tb5 (List.mem_of_getElem? (i := 80) rfl) rfl
set_option maxRecDepth 100000 in
theorem wd_5_82 : Cond.instanceMethod yX8_setRow ∈ TB := tb5 (List.mem_of_getElem? (i := 82) rfl) rfl
set_option maxRecDepth 100000 in
theorem wd_5_83 : Cond.selects RX8 yX8_setRow yX8_setRow ∈ TB := tb5 (List.mem_of_getElem? (i := 83) rfl) rfl
set_option maxRecDepth 100000 in
theorem wd_5_84 : Cond.code yX8_setRow cX8_setRow 5 (some .int) ∈ TB := tb5 (List.mem_of_getElem? (i := 84) rfl) rfl
set_option maxRecDepth 100000 in
theorem wd_5_85 : Cond.methodLink RX8 65 yX8_isLabel ∈ TB := tb5 (List.mem_of_getElem? (i := 85) rfl) rfl
set_option maxRecDepth 100000 in
theorem wd_5_87 : Cond.instanceMethod yX8_isLabel ∈ TB := tb5 (List.mem_of_getElem? (i := 87) rfl) rfl
set_option maxRecDepth 100000 in
theorem wd_5_88 : Cond.code yX8_isLabel cX8_isLabel 2 (some .boolean) ∈ TB := tb5 (List.mem_of_getElem? (i := 88) rfl) rfl
set_option maxRecDepth 100000 in
theorem wd_5_89 : Cond.methodLink RX8 68 yX8_labelOf ∈ TB := tb5 (List.mem_of_getElem? (i := 89) rfl) rfl
set_option maxRecDepth 100000 in
theorem wd_5_91 : Cond.instanceMethod yX8_labelOf ∈ TB := tb5 (List.mem_of_getElem? (i := 91) rfl) rfl
set_option maxRecDepth 100000 in
theorem wd_5_92 : Cond.code yX8_labelOf cX8_labelOf 3 (some .int) ∈ TB := tb5 (List.mem_of_getElem? (i := 92) rfl) rfl
set_option maxRecDepth 100000 in
theorem wd_5_94 : Cond.instanceMethod yX8_replace ∈ TB := tb5 (List.mem_of_getElem? (i := 94) rfl) rfl
set_option maxRecDepth 100000 in
theorem wd_5_95 : Cond.selects RX8 yX8_replace yX8_replace ∈ TB := tb5 (List.mem_of_getElem? (i := 95) rfl) rfl
set_option maxRecDepth 100000 in
theorem wd_5_96 : Cond.code yX8_replace cX8_replace 4 (some .int) ∈ TB := tb5 (List.mem_of_getElem? (i := 96) rfl) rfl
set_option maxRecDepth 100000 in
theorem wd_5_97 : Cond.methodLink RX8 72 yX8_isDot ∈ TB := tb5 (List.mem_of_getElem? (i := 97) rfl) rfl
set_option maxRecDepth 100000 in
theorem wd_5_99 : Cond.instanceMethod yX8_isDot ∈ TB := tb5 (List.mem_of_getElem? (i := 99) rfl) rfl
set_option maxRecDepth 100000 in
theorem wd_5_100 : Cond.code yX8_isDot cX8_isDot 2 (some .boolean) ∈ TB := tb5 (List.mem_of_getElem? (i := 100) rfl) rfl
set_option maxRecDepth 100000 in
theorem wd_5_102 : Cond.instanceMethod yX8_cool ∈ TB := tb5 (List.mem_of_getElem? (i := 102) rfl) rfl
set_option maxRecDepth 100000 in
theorem wd_5_103 : Cond.selects RX8 yX8_cool yX8_cool ∈ TB := tb5 (List.mem_of_getElem? (i := 103) rfl) rfl
set_option maxRecDepth 100000 in
theorem wd_5_104 : Cond.code yX8_cool cX8_cool 3 (some .int) ∈ TB := tb5 (List.mem_of_getElem? (i := 104) rfl) rfl
set_option maxRecDepth 100000 in
theorem wd_5_105 : Cond.methodLink RX8 75 yX8_cools ∈ TB := tb5 (List.mem_of_getElem? (i := 105) rfl) rfl
set_option maxRecDepth 100000 in
theorem wd_5_106 : Cond.static yX8_cools ∈ TB := tb5 (List.mem_of_getElem? (i := 106) rfl) rfl
set_option maxRecDepth 100000 in
theorem wd_5_107 : Cond.code yX8_cools cX8_cools 3 none ∈ TB := tb5 (List.mem_of_getElem? (i := 107) rfl) rfl
set_option maxRecDepth 100000 in
theorem wd_5_109 : Cond.instanceMethod yX8_addCustomer ∈ TB := tb5 (List.mem_of_getElem? (i := 109) rfl) rfl
set_option maxRecDepth 100000 in
theorem wd_5_110 : Cond.selects RX8 yX8_addCustomer yX8_addCustomer ∈ TB := tb5 (List.mem_of_getElem? (i := 110) rfl) rfl
set_option maxRecDepth 100000 in
theorem wd_5_111 : Cond.code yX8_addCustomer cX8_addCustomer 3 (some .int) ∈ TB := tb5 (List.mem_of_getElem? (i := 111) rfl) rfl
set_option maxRecDepth 100000 in
theorem wd_5_113 : Cond.instanceMethod yX8_rent ∈ TB := tb5 (List.mem_of_getElem? (i := 113) rfl) rfl
set_option maxRecDepth 100000 in
theorem wd_5_114 : Cond.selects RX8 yX8_rent yX8_rent ∈ TB := tb5 (List.mem_of_getElem? (i := 114) rfl) rfl
set_option maxRecDepth 100000 in
theorem wd_5_115 : Cond.code yX8_rent cX8_rent 4 (some .int) ∈ TB := tb5 (List.mem_of_getElem? (i := 115) rfl) rfl
set_option maxRecDepth 100000 in
theorem wd_5_116 : Cond.methodLink RX8 85 yX8_isCustomer ∈ TB := tb5 (List.mem_of_getElem? (i := 116) rfl) rfl
set_option maxRecDepth 100000 in
theorem wd_5_118 : Cond.instanceMethod yX8_isCustomer ∈ TB := tb5 (List.mem_of_getElem? (i := 118) rfl) rfl
set_option maxRecDepth 100000 in
theorem wd_5_119 : Cond.code yX8_isCustomer cX8_isCustomer 2 (some .boolean) ∈ TB := tb5 (List.mem_of_getElem? (i := 119) rfl) rfl
set_option maxRecDepth 100000 in
theorem wd_5_120 : Cond.methodLink RX8 88 yX8_isTaken ∈ TB := tb5 (List.mem_of_getElem? (i := 120) rfl) rfl
set_option maxRecDepth 100000 in
theorem wd_5_122 : Cond.instanceMethod yX8_isTaken ∈ TB := tb5 (List.mem_of_getElem? (i := 122) rfl) rfl
set_option maxRecDepth 100000 in
theorem wd_5_123 : Cond.code yX8_isTaken cX8_isTaken 6 (some .boolean) ∈ TB := tb5 (List.mem_of_getElem? (i := 123) rfl) rfl
set_option maxRecDepth 100000 in
theorem wd_5_124 : Cond.methodLink RX8 82 yX8_renter ∈ TB := tb5 (List.mem_of_getElem? (i := 124) rfl) rfl
set_option maxRecDepth 100000 in
theorem wd_5_126 : Cond.instanceMethod yX8_renter ∈ TB := tb5 (List.mem_of_getElem? (i := 126) rfl) rfl
set_option maxRecDepth 100000 in
theorem wd_5_127 : Cond.code yX8_renter cX8_renter 4 (some .int) ∈ TB := tb5 (List.mem_of_getElem? (i := 127) rfl) rfl
set_option maxRecDepth 100000 in
theorem wd_5_128 : Cond.methodLink RX8 79 yX8_customerOf ∈ TB := tb5 (List.mem_of_getElem? (i := 128) rfl) rfl
set_option maxRecDepth 100000 in
theorem wd_5_130 : Cond.instanceMethod yX8_customerOf ∈ TB := tb5 (List.mem_of_getElem? (i := 130) rfl) rfl
set_option maxRecDepth 100000 in
theorem wd_5_131 : Cond.code yX8_customerOf cX8_customerOf 3 (some .int) ∈ TB := tb5 (List.mem_of_getElem? (i := 131) rfl) rfl
set_option maxRecDepth 100000 in
theorem wd_5_132 : Cond.methodLink RX8 91 yX8_rented ∈ TB := tb5 (List.mem_of_getElem? (i := 132) rfl) rfl
set_option maxRecDepth 100000 in
theorem wd_5_134 : Cond.instanceMethod yX8_rented ∈ TB := tb5 (List.mem_of_getElem? (i := 134) rfl) rfl
set_option maxRecDepth 100000 in
theorem wd_5_135 : Cond.code yX8_rented cX8_rented 3 (some .int) ∈ TB := tb5 (List.mem_of_getElem? (i := 135) rfl) rfl
set_option maxRecDepth 100000 in
theorem wd_5_141 : Cond.instanceMethod yX8_print ∈ TB := tb5 (List.mem_of_getElem? (i := 141) rfl) rfl
set_option maxRecDepth 100000 in
theorem wd_5_142 : Cond.selects RX8 yX8_print yX8_print ∈ TB := tb5 (List.mem_of_getElem? (i := 142) rfl) rfl
set_option maxRecDepth 100000 in
theorem wd_5_143 : Cond.code yX8_print cX8_print 5 (some .int) ∈ TB := tb5 (List.mem_of_getElem? (i := 143) rfl) rfl
set_option maxRecDepth 100000 in
theorem wd_5_144 : Cond.methodLink RX8 125 yX8_wrong ∈ TB := tb5 (List.mem_of_getElem? (i := 144) rfl) rfl
set_option maxRecDepth 100000 in
theorem wd_5_146 : Cond.instanceMethod yX8_wrong ∈ TB := tb5 (List.mem_of_getElem? (i := 146) rfl) rfl
set_option maxRecDepth 100000 in
theorem wd_5_147 : Cond.code yX8_wrong cX8_wrong 4 (some .int) ∈ TB := tb5 (List.mem_of_getElem? (i := 147) rfl) rfl
set_option maxRecDepth 100000 in
theorem wd_5_148 : Cond.methodLink RX8 115 yX8_whyNot ∈ TB := tb5 (List.mem_of_getElem? (i := 148) rfl) rfl
set_option maxRecDepth 100000 in
theorem wd_5_150 : Cond.instanceMethod yX8_whyNot ∈ TB := tb5 (List.mem_of_getElem? (i := 150) rfl) rfl
set_option maxRecDepth 100000 in
theorem wd_5_151 : Cond.code yX8_whyNot cX8_whyNot 5 (some .int) ∈ TB := tb5 (List.mem_of_getElem? (i := 151) rfl) rfl
set_option maxRecDepth 100000 in
theorem wd_5_152 : Cond.methodLink RX8 98 yX8_blacks ∈ TB := tb5 (List.mem_of_getElem? (i := 152) rfl) rfl
set_option maxRecDepth 100000 in
theorem wd_5_154 : Cond.instanceMethod yX8_blacks ∈ TB := tb5 (List.mem_of_getElem? (i := 154) rfl) rfl
set_option maxRecDepth 100000 in
theorem wd_5_155 : Cond.code yX8_blacks cX8_blacks 4 (some .int) ∈ TB := tb5 (List.mem_of_getElem? (i := 155) rfl) rfl
set_option maxRecDepth 100000 in
theorem wd_5_156 : Cond.methodLink RX8 95 yX8_ones ∈ TB := tb5 (List.mem_of_getElem? (i := 156) rfl) rfl
set_option maxRecDepth 100000 in
theorem wd_5_157 : Cond.static yX8_ones ∈ TB := tb5 (List.mem_of_getElem? (i := 157) rfl) rfl
set_option maxRecDepth 100000 in
theorem wd_5_158 : Cond.code yX8_ones cX8_ones 3 (some .int) ∈ TB := tb5 (List.mem_of_getElem? (i := 158) rfl) rfl
set_option maxRecDepth 100000 in
theorem wd_5_159 : Cond.methodLink RX8 128 yX8_prints ∈ TB := tb5 (List.mem_of_getElem? (i := 159) rfl) rfl
set_option maxRecDepth 100000 in
theorem wd_5_161 : Cond.instanceMethod yX8_prints ∈ TB := tb5 (List.mem_of_getElem? (i := 161) rfl) rfl
set_option maxRecDepth 100000 in
theorem wd_5_162 : Cond.code yX8_prints cX8_prints 8 (some .int) ∈ TB := tb5 (List.mem_of_getElem? (i := 162) rfl) rfl
set_option maxRecDepth 100000 in
theorem wd_5_163 : Cond.methodLink RX8 122 yX8_priceOf ∈ TB := tb5 (List.mem_of_getElem? (i := 163) rfl) rfl
set_option maxRecDepth 100000 in
theorem wd_5_165 : Cond.instanceMethod yX8_priceOf ∈ TB := tb5 (List.mem_of_getElem? (i := 165) rfl) rfl
set_option maxRecDepth 100000 in
theorem wd_5_166 : Cond.code yX8_priceOf cX8_priceOf 8 (some .int) ∈ TB := tb5 (List.mem_of_getElem? (i := 166) rfl) rfl
set_option maxRecDepth 100000 in
theorem wd_5_167 : Cond.methodLink RX8 112 yX8_plays ∈ TB := tb5 (List.mem_of_getElem? (i := 167) rfl) rfl
set_option maxRecDepth 100000 in
theorem wd_5_169 : Cond.instanceMethod yX8_plays ∈ TB := tb5 (List.mem_of_getElem? (i := 169) rfl) rfl
set_option maxRecDepth 100000 in
theorem wd_5_170 : Cond.code yX8_plays cX8_plays 7 (some .int) ∈ TB := tb5 (List.mem_of_getElem? (i := 170) rfl) rfl
set_option maxRecDepth 100000 in
theorem wd_5_171 : Cond.methodLink RX8 101 yX8_fade ∈ TB := tb5 (List.mem_of_getElem? (i := 171) rfl) rfl
set_option maxRecDepth 100000 in
theorem wd_5_172 : Cond.static yX8_fade ∈ TB := tb5 (List.mem_of_getElem? (i := 172) rfl) rfl
set_option maxRecDepth 100000 in
theorem wd_5_173 : Cond.code yX8_fade cX8_fade 3 (some .int) ∈ TB := tb5 (List.mem_of_getElem? (i := 173) rfl) rfl
set_option maxRecDepth 100000 in
theorem wd_5_174 : Cond.methodLink RX8 105 yX8_burns ∈ TB := tb5 (List.mem_of_getElem? (i := 174) rfl) rfl
set_option maxRecDepth 100000 in
theorem wd_5_175 : Cond.static yX8_burns ∈ TB := tb5 (List.mem_of_getElem? (i := 175) rfl) rfl
set_option maxRecDepth 100000 in
theorem wd_5_176 : Cond.code yX8_burns cX8_burns 7 none ∈ TB := tb5 (List.mem_of_getElem? (i := 176) rfl) rfl
set_option maxRecDepth 100000 in
theorem wd_5_178 : Cond.instanceMethod yX8_printBest ∈ TB := tb5 (List.mem_of_getElem? (i := 178) rfl) rfl
set_option maxRecDepth 100000 in
theorem wd_5_179 : Cond.selects RX8 yX8_printBest yX8_printBest ∈ TB := tb5 (List.mem_of_getElem? (i := 179) rfl) rfl
set_option maxRecDepth 100000 in
theorem wd_5_180 : Cond.code yX8_printBest cX8_printBest 6 (some .int) ∈ TB := tb5 (List.mem_of_getElem? (i := 180) rfl) rfl
set_option maxRecDepth 100000 in
theorem wd_5_181 : Cond.methodLink RX8 131 yX8_best ∈ TB := tb5 (List.mem_of_getElem? (i := 181) rfl) rfl
set_option maxRecDepth 100000 in
theorem wd_5_183 : Cond.instanceMethod yX8_best ∈ TB := tb5 (List.mem_of_getElem? (i := 183) rfl) rfl
set_option maxRecDepth 100000 in
theorem wd_5_184 : Cond.code yX8_best cX8_best 10 (some .int) ∈ TB := tb5 (List.mem_of_getElem? (i := 184) rfl) rfl
set_option maxRecDepth 100000 in
theorem wd_5_185 : Cond.methodLink RX8 119 yX8_badOf ∈ TB := tb5 (List.mem_of_getElem? (i := 185) rfl) rfl
set_option maxRecDepth 100000 in
theorem wd_5_187 : Cond.instanceMethod yX8_badOf ∈ TB := tb5 (List.mem_of_getElem? (i := 187) rfl) rfl
set_option maxRecDepth 100000 in
theorem wd_5_188 : Cond.code yX8_badOf cX8_badOf 3 (some .int) ∈ TB := tb5 (List.mem_of_getElem? (i := 188) rfl) rfl
set_option maxRecDepth 100000 in
theorem wd_5_189 : Cond.methodLink RX8 109 yX8_copies ∈ TB := tb5 (List.mem_of_getElem? (i := 189) rfl) rfl
set_option maxRecDepth 100000 in
theorem wd_5_191 : Cond.instanceMethod yX8_copies ∈ TB := tb5 (List.mem_of_getElem? (i := 191) rfl) rfl
set_option maxRecDepth 100000 in
theorem wd_5_192 : Cond.code yX8_copies cX8_copies 2 none ∈ TB := tb5 (List.mem_of_getElem? (i := 192) rfl) rfl
set_option maxRecDepth 100000 in
theorem wd_5_197 : Cond.methodLink RX8 134 yX8_valueOf ∈ TB := tb5 (List.mem_of_getElem? (i := 197) rfl) rfl
set_option maxRecDepth 100000 in
theorem wd_5_199 : Cond.instanceMethod yX8_valueOf ∈ TB := tb5 (List.mem_of_getElem? (i := 199) rfl) rfl
set_option maxRecDepth 100000 in
theorem wd_5_200 : Cond.code yX8_valueOf cX8_valueOf 3 (some .int) ∈ TB := tb5 (List.mem_of_getElem? (i := 200) rfl) rfl
set_option maxRecDepth 100000 in
theorem wd_5_205 : Cond.methodLink RX8 140 yX8_ofLabel ∈ TB := tb5 (List.mem_of_getElem? (i := 205) rfl) rfl
set_option maxRecDepth 100000 in
theorem wd_5_207 : Cond.instanceMethod yX8_ofLabel ∈ TB := tb5 (List.mem_of_getElem? (i := 207) rfl) rfl
set_option maxRecDepth 100000 in
theorem wd_5_208 : Cond.code yX8_ofLabel cX8_ofLabel 3 (some .int) ∈ TB := tb5 (List.mem_of_getElem? (i := 208) rfl) rfl
set_option maxRecDepth 100000 in
theorem wd_5_209 : Cond.methodLink RX8 137 yX8_empties ∈ TB := tb5 (List.mem_of_getElem? (i := 209) rfl) rfl
set_option maxRecDepth 100000 in
theorem wd_5_211 : Cond.instanceMethod yX8_empties ∈ TB := tb5 (List.mem_of_getElem? (i := 211) rfl) rfl
set_option maxRecDepth 100000 in
theorem wd_5_212 : Cond.code yX8_empties cX8_empties 4 (some .int) ∈ TB := tb5 (List.mem_of_getElem? (i := 212) rfl) rfl
set_option maxRecDepth 100000 in
theorem wd_5_225 : Cond.methodLink RX8 149 yX8_wholeOf ∈ TB := tb5 (List.mem_of_getElem? (i := 225) rfl) rfl
set_option maxRecDepth 100000 in
theorem wd_5_227 : Cond.instanceMethod yX8_wholeOf ∈ TB := tb5 (List.mem_of_getElem? (i := 227) rfl) rfl
set_option maxRecDepth 100000 in
theorem wd_5_228 : Cond.code yX8_wholeOf cX8_wholeOf 2 (some .int) ∈ TB := tb5 (List.mem_of_getElem? (i := 228) rfl) rfl
set_option maxRecDepth 100000 in
theorem wd_5_229 : Cond.methodLink RX8 143 yX8_earned ∈ TB := tb5 (List.mem_of_getElem? (i := 229) rfl) rfl
set_option maxRecDepth 100000 in
theorem wd_5_231 : Cond.instanceMethod yX8_earned ∈ TB := tb5 (List.mem_of_getElem? (i := 231) rfl) rfl
set_option maxRecDepth 100000 in
theorem wd_5_232 : Cond.code yX8_earned cX8_earned 3 (some .int) ∈ TB := tb5 (List.mem_of_getElem? (i := 232) rfl) rfl
set_option maxRecDepth 100000 in
theorem wd_6_17 : Cond.methodLink RX8 152 yX8_worn ∈ TB := tb6 (List.mem_of_getElem? (i := 17) rfl) rfl
set_option maxRecDepth 100000 in
theorem wd_6_19 : Cond.instanceMethod yX8_worn ∈ TB := tb6 (List.mem_of_getElem? (i := 19) rfl) rfl
set_option maxRecDepth 100000 in
theorem wd_6_20 : Cond.code yX8_worn cX8_worn 3 (some .int) ∈ TB := tb6 (List.mem_of_getElem? (i := 20) rfl) rfl
set_option maxRecDepth 100000 in
theorem wd_6_33 : Cond.methodLink RX8 224 yX8_fault ∈ TB := tb6 (List.mem_of_getElem? (i := 33) rfl) rfl
set_option maxRecDepth 100000 in
theorem wd_6_35 : Cond.instanceMethod yX8_fault ∈ TB := tb6 (List.mem_of_getElem? (i := 35) rfl) rfl
set_option maxRecDepth 100000 in
theorem wd_6_36 : Cond.code yX8_fault cX8_fault 2 (some .int) ∈ TB := tb6 (List.mem_of_getElem? (i := 36) rfl) rfl
set_option maxRecDepth 100000 in
theorem wd_6_37 : Cond.methodLink RX8 170 yX8_skips ∈ TB := tb6 (List.mem_of_getElem? (i := 37) rfl) rfl
set_option maxRecDepth 100000 in
theorem wd_6_39 : Cond.instanceMethod yX8_skips ∈ TB := tb6 (List.mem_of_getElem? (i := 39) rfl) rfl
set_option maxRecDepth 100000 in
theorem wd_6_40 : Cond.code yX8_skips cX8_skips 1 none ∈ TB := tb6 (List.mem_of_getElem? (i := 40) rfl) rfl
set_option maxRecDepth 100000 in
theorem wd_6_41 : Cond.methodLink RX8 158 yX8_isAt ∈ TB := tb6 (List.mem_of_getElem? (i := 41) rfl) rfl
set_option maxRecDepth 100000 in
theorem wd_6_43 : Cond.instanceMethod yX8_isAt ∈ TB := tb6 (List.mem_of_getElem? (i := 43) rfl) rfl
set_option maxRecDepth 100000 in
theorem wd_6_44 : Cond.code yX8_isAt cX8_isAt 3 (some .boolean) ∈ TB := tb6 (List.mem_of_getElem? (i := 44) rfl) rfl
set_option maxRecDepth 100000 in
theorem wd_6_45 : Cond.methodLink RX8 190 yX8_reads ∈ TB := tb6 (List.mem_of_getElem? (i := 45) rfl) rfl
set_option maxRecDepth 100000 in
theorem wd_6_47 : Cond.instanceMethod yX8_reads ∈ TB := tb6 (List.mem_of_getElem? (i := 47) rfl) rfl
set_option maxRecDepth 100000 in
theorem wd_6_48 : Cond.code yX8_reads cX8_reads 3 (some .boolean) ∈ TB := tb6 (List.mem_of_getElem? (i := 48) rfl) rfl
set_option maxRecDepth 100000 in
theorem wd_6_49 : Cond.methodLink RX8 173 yX8_wordOf ∈ TB := tb6 (List.mem_of_getElem? (i := 49) rfl) rfl
set_option maxRecDepth 100000 in
theorem wd_6_51 : Cond.instanceMethod yX8_wordOf ∈ TB := tb6 (List.mem_of_getElem? (i := 51) rfl) rfl
set_option maxRecDepth 100000 in
theorem wd_6_52 : Cond.code yX8_wordOf cX8_wordOf 6 (some .long) ∈ TB := tb6 (List.mem_of_getElem? (i := 52) rfl) rfl
set_option maxRecDepth 100000 in
theorem wd_6_53 : Cond.constantLong RX8 162 (27) ∈ TB := tb6 (List.mem_of_getElem? (i := 53) rfl) rfl
set_option maxRecDepth 100000 in
theorem wd_6_54 : Cond.constantLong RX8 164 (97) ∈ TB := tb6 (List.mem_of_getElem? (i := 54) rfl) rfl
set_option maxRecDepth 100000 in
theorem wd_6_55 : Cond.methodLink RX8 177 yX8_commandOf ∈ TB := tb6 (List.mem_of_getElem? (i := 55) rfl) rfl
set_option maxRecDepth 100000 in
theorem wd_6_56 : Cond.static yX8_commandOf ∈ TB := tb6 (List.mem_of_getElem? (i := 56) rfl) rfl
set_option maxRecDepth 100000 in
theorem wd_6_57 : Cond.code yX8_commandOf cX8_commandOf 2 (some .int) ∈ TB := tb6 (List.mem_of_getElem? (i := 57) rfl) rfl
set_option maxRecDepth 100000 in
theorem wd_6_58 : Cond.methodLink RX8 166 yX8_code ∈ TB := tb6 (List.mem_of_getElem? (i := 58) rfl) rfl
set_option maxRecDepth 100000 in
theorem wd_6_59 : Cond.static yX8_code ∈ TB := tb6 (List.mem_of_getElem? (i := 59) rfl) rfl
set_option maxRecDepth 100000 in
theorem wd_6_60 : Cond.code yX8_code cX8_code 10 (some .long) ∈ TB := tb6 (List.mem_of_getElem? (i := 60) rfl) rfl
set_option maxRecDepth 100000 in
theorem wd_6_61 : Cond.methodLink RX8 184 yX8_numbersOf ∈ TB := tb6 (List.mem_of_getElem? (i := 61) rfl) rfl
set_option maxRecDepth 100000 in
theorem wd_6_62 : Cond.static yX8_numbersOf ∈ TB := tb6 (List.mem_of_getElem? (i := 62) rfl) rfl
set_option maxRecDepth 100000 in
theorem wd_6_63 : Cond.code yX8_numbersOf cX8_numbersOf 1 (some .int) ∈ TB := tb6 (List.mem_of_getElem? (i := 63) rfl) rfl
set_option maxRecDepth 100000 in
theorem wd_6_64 : Cond.methodLink RX8 187 yX8_number ∈ TB := tb6 (List.mem_of_getElem? (i := 64) rfl) rfl
set_option maxRecDepth 100000 in
theorem wd_6_66 : Cond.instanceMethod yX8_number ∈ TB := tb6 (List.mem_of_getElem? (i := 66) rfl) rfl
set_option maxRecDepth 100000 in
theorem wd_6_67 : Cond.code yX8_number cX8_number 3 (some .boolean) ∈ TB := tb6 (List.mem_of_getElem? (i := 67) rfl) rfl
set_option maxRecDepth 100000 in
theorem wd_6_68 : Cond.methodLink RX8 227 yX8_does ∈ TB := tb6 (List.mem_of_getElem? (i := 68) rfl) rfl
set_option maxRecDepth 100000 in
theorem wd_6_70 : Cond.instanceMethod yX8_does ∈ TB := tb6 (List.mem_of_getElem? (i := 70) rfl) rfl
set_option maxRecDepth 100000 in
theorem wd_6_71 : Cond.code yX8_does cX8_does 1 (some .int) ∈ TB := tb6 (List.mem_of_getElem? (i := 71) rfl) rfl
set_option maxRecDepth 100000 in
theorem wd_6_72 : Cond.methodLink RX8 194 yX8_begin ∈ TB := tb6 (List.mem_of_getElem? (i := 72) rfl) rfl
set_option maxRecDepth 100000 in
theorem wd_6_73 : Cond.methodLink RX8 197 yX8_addLabel ∈ TB := tb6 (List.mem_of_getElem? (i := 73) rfl) rfl
set_option maxRecDepth 100000 in
theorem wd_6_74 : Cond.methodLink RX8 200 yX8_setRow ∈ TB := tb6 (List.mem_of_getElem? (i := 74) rfl) rfl
set_option maxRecDepth 100000 in
theorem wd_6_75 : Cond.methodLink RX8 203 yX8_addCustomer ∈ TB := tb6 (List.mem_of_getElem? (i := 75) rfl) rfl
set_option maxRecDepth 100000 in
theorem wd_6_76 : Cond.methodLink RX8 206 yX8_rent ∈ TB := tb6 (List.mem_of_getElem? (i := 76) rfl) rfl
set_option maxRecDepth 100000 in
theorem wd_6_77 : Cond.methodLink RX8 209 yX8_print ∈ TB := tb6 (List.mem_of_getElem? (i := 77) rfl) rfl
set_option maxRecDepth 100000 in
theorem wd_6_78 : Cond.methodLink RX8 212 yX8_printBest ∈ TB := tb6 (List.mem_of_getElem? (i := 78) rfl) rfl
set_option maxRecDepth 100000 in
theorem wd_6_79 : Cond.methodLink RX8 215 yX8_cool ∈ TB := tb6 (List.mem_of_getElem? (i := 79) rfl) rfl
set_option maxRecDepth 100000 in
theorem wd_6_80 : Cond.methodLink RX8 218 yX8_replace ∈ TB := tb6 (List.mem_of_getElem? (i := 80) rfl) rfl
set_option maxRecDepth 100000 in
theorem wd_6_81 : Cond.methodLink RX8 221 yX8_set ∈ TB := tb6 (List.mem_of_getElem? (i := 81) rfl) rfl
set_option maxRecDepth 100000 in
theorem wd_6_90 : Cond.constantLong RX8 230 (1346888) ∈ TB := tb6 (List.mem_of_getElem? (i := 90) rfl) rfl
set_option maxRecDepth 100000 in
theorem wd_6_91 : Cond.constantLong RX8 232 (31) ∈ TB := tb6 (List.mem_of_getElem? (i := 91) rfl) rfl
set_option maxRecDepth 100000 in
theorem wp_1_0 : Cond.selects RX1 yX1_skipSpaces yX1_skipSpaces ∈ TB := tbs1 (q := (yX1_skipSpaces, 6)) (List.mem_of_getElem? (i := 0) rfl)
set_option maxRecDepth 100000 in
theorem wp_1_1 : Cond.selects RX1 yX1_skipLetters yX1_skipLetters ∈ TB := tbs1 (q := (yX1_skipLetters, 6)) (List.mem_of_getElem? (i := 1) rfl)
set_option maxRecDepth 100000 in
theorem wp_1_5 : Cond.selects RX1 yX1_readNumber yX1_readNumber ∈ TB := tbs1 (q := (yX1_readNumber, 6)) (List.mem_of_getElem? (i := 5) rfl)
set_option maxRecDepth 100000 in
theorem wp_1_8 : Cond.selects RX5 yX5_othersRentOneOf yX5_othersRentOneOf ∈ TB := tbs1 (q := (yX5_othersRentOneOf, 8)) (List.mem_of_getElem? (i := 8) rfl)
set_option maxRecDepth 100000 in
theorem wp_1_9 : Cond.selects RX3 yX3_burn yX3_burn ∈ TB := tbs1 (q := (yX3_burn, 5)) (List.mem_of_getElem? (i := 9) rfl)
set_option maxRecDepth 100000 in
theorem wp_1_10 : Cond.selects RX5 yX5_allWear yX5_allWear ∈ TB := tbs1 (q := (yX5_allWear, 8)) (List.mem_of_getElem? (i := 10) rfl)
set_option maxRecDepth 100000 in
theorem wp_1_11 : Cond.selects RX5 yX5_allRented yX5_allRented ∈ TB := tbs1 (q := (yX5_allRented, 8)) (List.mem_of_getElem? (i := 11) rfl)
set_option maxRecDepth 100000 in
theorem wp_1_12 : Cond.selects RX5 yX5_book yX5_book ∈ TB := tbs1 (q := (yX5_book, 8)) (List.mem_of_getElem? (i := 12) rfl)
set_option maxRecDepth 100000 in
theorem wp_1_14 : Cond.selects RX5 yX5_allPrinted yX5_allPrinted ∈ TB := tbs1 (q := (yX5_allPrinted, 8)) (List.mem_of_getElem? (i := 14) rfl)
set_option maxRecDepth 100000 in
theorem wp_1_15 : Cond.selects RX5 yX5_allFailed yX5_allFailed ∈ TB := tbs1 (q := (yX5_allFailed, 8)) (List.mem_of_getElem? (i := 15) rfl)
set_option maxRecDepth 100000 in
theorem wp_2_0 : Cond.selects RX5 yX5_allEarned yX5_allEarned ∈ TB := tbs2 (q := (yX5_allEarned, 8)) (List.mem_of_getElem? (i := 0) rfl)
set_option maxRecDepth 100000 in
theorem wp_2_2 : Cond.selects RX5 yX5_renterOf yX5_renterOf ∈ TB := tbs2 (q := (yX5_renterOf, 8)) (List.mem_of_getElem? (i := 2) rfl)
set_option maxRecDepth 100000 in
theorem wp_2_5 : Cond.selects RX8 yX8_throwsAt yX8_throwsAt ∈ TB := tbs2 (q := (yX8_throwsAt, 11)) (List.mem_of_getElem? (i := 5) rfl)
set_option maxRecDepth 100000 in
theorem wp_2_6 : Cond.selects RX8 yX8_saves yX8_saves ∈ TB := tbs2 (q := (yX8_saves, 11)) (List.mem_of_getElem? (i := 6) rfl)
set_option maxRecDepth 100000 in
theorem wp_2_7 : Cond.selects RX8 yX8_sumOf yX8_sumOf ∈ TB := tbs2 (q := (yX8_sumOf, 11)) (List.mem_of_getElem? (i := 7) rfl)
set_option maxRecDepth 100000 in
theorem wp_2_8 : Cond.selects RX8 yX8_frees yX8_frees ∈ TB := tbs2 (q := (yX8_frees, 11)) (List.mem_of_getElem? (i := 8) rfl)
set_option maxRecDepth 100000 in
theorem wp_2_9 : Cond.selects RX8 yX8_isLabel yX8_isLabel ∈ TB := tbs2 (q := (yX8_isLabel, 11)) (List.mem_of_getElem? (i := 9) rfl)
set_option maxRecDepth 100000 in
theorem wp_2_10 : Cond.selects RX8 yX8_labelOf yX8_labelOf ∈ TB := tbs2 (q := (yX8_labelOf, 11)) (List.mem_of_getElem? (i := 10) rfl)
set_option maxRecDepth 100000 in
theorem wp_2_11 : Cond.selects RX8 yX8_isDot yX8_isDot ∈ TB := tbs2 (q := (yX8_isDot, 11)) (List.mem_of_getElem? (i := 11) rfl)
set_option maxRecDepth 100000 in
theorem wp_2_12 : Cond.selects RX8 yX8_isCustomer yX8_isCustomer ∈ TB := tbs2 (q := (yX8_isCustomer, 11)) (List.mem_of_getElem? (i := 12) rfl)
set_option maxRecDepth 100000 in
theorem wp_2_13 : Cond.selects RX8 yX8_isTaken yX8_isTaken ∈ TB := tbs2 (q := (yX8_isTaken, 11)) (List.mem_of_getElem? (i := 13) rfl)
set_option maxRecDepth 100000 in
theorem wp_2_14 : Cond.selects RX8 yX8_renter yX8_renter ∈ TB := tbs2 (q := (yX8_renter, 11)) (List.mem_of_getElem? (i := 14) rfl)
set_option maxRecDepth 100000 in
theorem wp_2_15 : Cond.selects RX8 yX8_customerOf yX8_customerOf ∈ TB := tbs2 (q := (yX8_customerOf, 11)) (List.mem_of_getElem? (i := 15) rfl)
set_option maxRecDepth 100000 in
theorem wp_3_0 : Cond.selects RX8 yX8_rented yX8_rented ∈ TB := tbs3 (q := (yX8_rented, 11)) (List.mem_of_getElem? (i := 0) rfl)
set_option maxRecDepth 100000 in
theorem wp_3_1 : Cond.selects RX8 yX8_wrong yX8_wrong ∈ TB := tbs3 (q := (yX8_wrong, 11)) (List.mem_of_getElem? (i := 1) rfl)
set_option maxRecDepth 100000 in
theorem wp_3_2 : Cond.selects RX8 yX8_whyNot yX8_whyNot ∈ TB := tbs3 (q := (yX8_whyNot, 11)) (List.mem_of_getElem? (i := 2) rfl)
set_option maxRecDepth 100000 in
theorem wp_3_3 : Cond.selects RX8 yX8_blacks yX8_blacks ∈ TB := tbs3 (q := (yX8_blacks, 11)) (List.mem_of_getElem? (i := 3) rfl)
set_option maxRecDepth 100000 in
theorem wp_3_4 : Cond.selects RX8 yX8_prints yX8_prints ∈ TB := tbs3 (q := (yX8_prints, 11)) (List.mem_of_getElem? (i := 4) rfl)
set_option maxRecDepth 100000 in
theorem wp_3_5 : Cond.selects RX8 yX8_priceOf yX8_priceOf ∈ TB := tbs3 (q := (yX8_priceOf, 11)) (List.mem_of_getElem? (i := 5) rfl)
set_option maxRecDepth 100000 in
theorem wp_3_6 : Cond.selects RX8 yX8_plays yX8_plays ∈ TB := tbs3 (q := (yX8_plays, 11)) (List.mem_of_getElem? (i := 6) rfl)
set_option maxRecDepth 100000 in
theorem wp_3_7 : Cond.selects RX8 yX8_best yX8_best ∈ TB := tbs3 (q := (yX8_best, 11)) (List.mem_of_getElem? (i := 7) rfl)
set_option maxRecDepth 100000 in
theorem wp_3_8 : Cond.selects RX8 yX8_badOf yX8_badOf ∈ TB := tbs3 (q := (yX8_badOf, 11)) (List.mem_of_getElem? (i := 8) rfl)
set_option maxRecDepth 100000 in
theorem wp_3_9 : Cond.selects RX8 yX8_copies yX8_copies ∈ TB := tbs3 (q := (yX8_copies, 11)) (List.mem_of_getElem? (i := 9) rfl)
set_option maxRecDepth 100000 in
theorem wp_3_10 : Cond.selects RX8 yX8_valueOf yX8_valueOf ∈ TB := tbs3 (q := (yX8_valueOf, 11)) (List.mem_of_getElem? (i := 10) rfl)
set_option maxRecDepth 100000 in
theorem wp_3_11 : Cond.selects RX8 yX8_ofLabel yX8_ofLabel ∈ TB := tbs3 (q := (yX8_ofLabel, 11)) (List.mem_of_getElem? (i := 11) rfl)
set_option maxRecDepth 100000 in
theorem wp_3_12 : Cond.selects RX8 yX8_empties yX8_empties ∈ TB := tbs3 (q := (yX8_empties, 11)) (List.mem_of_getElem? (i := 12) rfl)
set_option maxRecDepth 100000 in
theorem wp_3_13 : Cond.selects RX8 yX8_wholeOf yX8_wholeOf ∈ TB := tbs3 (q := (yX8_wholeOf, 11)) (List.mem_of_getElem? (i := 13) rfl)
set_option maxRecDepth 100000 in
theorem wp_3_14 : Cond.selects RX8 yX8_earned yX8_earned ∈ TB := tbs3 (q := (yX8_earned, 11)) (List.mem_of_getElem? (i := 14) rfl)
set_option maxRecDepth 100000 in
theorem wp_3_15 : Cond.selects RX8 yX8_worn yX8_worn ∈ TB := tbs3 (q := (yX8_worn, 11)) (List.mem_of_getElem? (i := 15) rfl)
set_option maxRecDepth 100000 in
theorem wp_4_0 : Cond.selects RX8 yX8_fault yX8_fault ∈ TB := tbs4 (q := (yX8_fault, 11)) (List.mem_of_getElem? (i := 0) rfl)
set_option maxRecDepth 100000 in
theorem wp_4_1 : Cond.selects RX8 yX8_skips yX8_skips ∈ TB := tbs4 (q := (yX8_skips, 11)) (List.mem_of_getElem? (i := 1) rfl)
set_option maxRecDepth 100000 in
theorem wp_4_2 : Cond.selects RX8 yX8_isAt yX8_isAt ∈ TB := tbs4 (q := (yX8_isAt, 11)) (List.mem_of_getElem? (i := 2) rfl)
set_option maxRecDepth 100000 in
theorem wp_4_3 : Cond.selects RX8 yX8_reads yX8_reads ∈ TB := tbs4 (q := (yX8_reads, 11)) (List.mem_of_getElem? (i := 3) rfl)
set_option maxRecDepth 100000 in
theorem wp_4_4 : Cond.selects RX8 yX8_wordOf yX8_wordOf ∈ TB := tbs4 (q := (yX8_wordOf, 11)) (List.mem_of_getElem? (i := 4) rfl)
set_option maxRecDepth 100000 in
theorem wp_4_5 : Cond.selects RX8 yX8_number yX8_number ∈ TB := tbs4 (q := (yX8_number, 11)) (List.mem_of_getElem? (i := 5) rfl)
set_option maxRecDepth 100000 in
theorem wp_4_6 : Cond.selects RX8 yX8_does yX8_does ∈ TB := tbs4 (q := (yX8_does, 11)) (List.mem_of_getElem? (i := 6) rfl)
theorem mm_J6_bitCount_0f7a4 : Cond.static yJ6_bitCount_0f7a4 ∈ TB ∧ Cond.initialized yJ6_bitCount_0f7a4.cls ∈ TB ∧ Cond.code yJ6_bitCount_0f7a4 cJ6_bitCount_0f7a4 1 (some .int) ∈ TB := ⟨wd_2_180, wd_1_17, wd_2_181⟩
theorem mm_X1_empty : Cond.instanceMethod yX1_empty ∈ TB ∧ Cond.selects RX1 yX1_empty yX1_empty ∈ TB ∧ Cond.initialized RX1 ∈ TB ∧ Cond.code yX1_empty cX1_empty 2 (some .int) ∈ TB := ⟨wd_1_226, wd_1_227, wd_1_2, wd_1_228⟩
theorem mm_X1_readNumber : Cond.instanceMethod yX1_readNumber ∈ TB ∧ Cond.selects RX1 yX1_readNumber yX1_readNumber ∈ TB ∧ Cond.initialized RX1 ∈ TB ∧ Cond.code yX1_readNumber cX1_readNumber 5 (some .boolean) ∈ TB := ⟨wd_2_77, wp_1_5, wd_1_2, wd_2_78⟩
theorem mm_X1_rewind : Cond.instanceMethod yX1_rewind ∈ TB ∧ Cond.selects RX1 yX1_rewind yX1_rewind ∈ TB ∧ Cond.initialized RX1 ∈ TB ∧ Cond.code yX1_rewind cX1_rewind 1 none ∈ TB := ⟨wd_1_238, wd_1_239, wd_1_2, wd_2_0⟩
theorem mm_X1_skipLetters : Cond.instanceMethod yX1_skipLetters ∈ TB ∧ Cond.selects RX1 yX1_skipLetters yX1_skipLetters ∈ TB ∧ Cond.initialized RX1 ∈ TB ∧ Cond.code yX1_skipLetters cX1_skipLetters 1 none ∈ TB := ⟨wd_2_11, wp_1_1, wd_1_2, wd_2_12⟩
theorem mm_X1_skipSpaces : Cond.instanceMethod yX1_skipSpaces ∈ TB ∧ Cond.selects RX1 yX1_skipSpaces yX1_skipSpaces ∈ TB ∧ Cond.initialized RX1 ∈ TB ∧ Cond.code yX1_skipSpaces cX1_skipSpaces 1 none ∈ TB := ⟨wd_2_7, wp_1_0, wd_1_2, wd_2_8⟩
theorem mm_X1_whyNotAppend : Cond.instanceMethod yX1_whyNotAppend ∈ TB ∧ Cond.selects RX1 yX1_whyNotAppend yX1_whyNotAppend ∈ TB ∧ Cond.initialized RX1 ∈ TB ∧ Cond.code yX1_whyNotAppend cX1_whyNotAppend 2 (some .int) ∈ TB := ⟨wd_4_223, wd_4_224, wd_1_2, wd_4_225⟩
theorem mm_X2_rentNothing : Cond.instanceMethod yX2_rentNothing ∈ TB ∧ Cond.selects RX2 yX2_rentNothing yX2_rentNothing ∈ TB ∧ Cond.initialized RX2 ∈ TB ∧ Cond.code yX2_rentNothing cX2_rentNothing 1 none ∈ TB := ⟨wd_3_33, wd_3_34, wd_1_9, wd_3_35⟩
theorem mm_X2_rented : Cond.instanceMethod yX2_rented ∈ TB ∧ Cond.selects RX2 yX2_rented yX2_rented ∈ TB ∧ Cond.initialized RX2 ∈ TB ∧ Cond.code yX2_rented cX2_rented 1 (some .int) ∈ TB := ⟨wd_3_57, wd_3_58, wd_1_9, wd_3_59⟩
theorem mm_X2_rentsAllOf : Cond.instanceMethod yX2_rentsAllOf ∈ TB ∧ Cond.selects RX2 yX2_rentsAllOf yX2_rentsAllOf ∈ TB ∧ Cond.initialized RX2 ∈ TB ∧ Cond.code yX2_rentsAllOf cX2_rentsAllOf 3 (some .boolean) ∈ TB := ⟨wd_2_226, wd_2_227, wd_1_9, wd_2_228⟩
theorem mm_X2_rentsOneOf : Cond.instanceMethod yX2_rentsOneOf ∈ TB ∧ Cond.selects RX2 yX2_rentsOneOf yX2_rentsOneOf ∈ TB ∧ Cond.initialized RX2 ∈ TB ∧ Cond.code yX2_rentsOneOf cX2_rentsOneOf 3 (some .boolean) ∈ TB := ⟨wd_2_160, wd_2_161, wd_1_9, wd_2_162⟩
theorem mm_X2_takeOver : Cond.instanceMethod yX2_takeOver ∈ TB ∧ Cond.selects RX2 yX2_takeOver yX2_takeOver ∈ TB ∧ Cond.initialized RX2 ∈ TB ∧ Cond.code yX2_takeOver cX2_takeOver 2 none ∈ TB := ⟨wd_2_102, wd_2_103, wd_1_9, wd_2_104⟩
theorem mm_X2_value : Cond.instanceMethod yX2_value ∈ TB ∧ Cond.selects RX2 yX2_value yX2_value ∈ TB ∧ Cond.initialized RX2 ∈ TB ∧ Cond.code yX2_value cX2_value 2 (some .int) ∈ TB := ⟨wd_4_14, wd_4_15, wd_1_9, wd_4_16⟩
theorem mm_X3_burn : Cond.instanceMethod yX3_burn ∈ TB ∧ Cond.selects RX3 yX3_burn yX3_burn ∈ TB ∧ Cond.initialized RX3 ∈ TB ∧ Cond.code yX3_burn cX3_burn 4 none ∈ TB := ⟨wd_2_215, wp_1_9, wd_1_5, wd_2_216⟩
theorem mm_X3_fadeOf : Cond.instanceMethod yX3_fadeOf ∈ TB ∧ Cond.selects RX3 yX3_fadeOf yX3_fadeOf ∈ TB ∧ Cond.initialized RX3 ∈ TB ∧ Cond.code yX3_fadeOf cX3_fadeOf 5 (some .int) ∈ TB := ⟨wd_2_210, wd_2_211, wd_1_5, wd_2_212⟩
theorem mm_X3_heatSum : Cond.instanceMethod yX3_heatSum ∈ TB ∧ Cond.selects RX3 yX3_heatSum yX3_heatSum ∈ TB ∧ Cond.initialized RX3 ∈ TB ∧ Cond.code yX3_heatSum cX3_heatSum 3 (some .int) ∈ TB := ⟨wd_3_78, wd_3_79, wd_1_5, wd_3_80⟩
theorem mm_X3_lose : Cond.instanceMethod yX3_lose ∈ TB ∧ Cond.selects RX3 yX3_lose yX3_lose ∈ TB ∧ Cond.initialized RX3 ∈ TB ∧ Cond.code yX3_lose cX3_lose 3 none ∈ TB := ⟨wd_2_218, wd_2_219, wd_1_5, wd_2_220⟩
theorem mm_X3_mostWornDot : Cond.instanceMethod yX3_mostWornDot ∈ TB ∧ Cond.selects RX3 yX3_mostWornDot yX3_mostWornDot ∈ TB ∧ Cond.initialized RX3 ∈ TB ∧ Cond.code yX3_mostWornDot cX3_mostWornDot 3 (some .int) ∈ TB := ⟨wd_1_218, wd_1_219, wd_1_5, wd_1_220⟩
theorem mm_X3_printRows : Cond.instanceMethod yX3_printRows ∈ TB ∧ Cond.selects RX3 yX3_printRows yX3_printRows ∈ TB ∧ Cond.initialized RX3 ∈ TB ∧ Cond.code yX3_printRows cX3_printRows 9 (some .int) ∈ TB := ⟨wd_2_206, wd_2_207, wd_1_5, wd_2_208⟩
theorem mm_X3_renew : Cond.instanceMethod yX3_renew ∈ TB ∧ Cond.selects RX3 yX3_renew yX3_renew ∈ TB ∧ Cond.initialized RX3 ∈ TB ∧ Cond.code yX3_renew cX3_renew 2 none ∈ TB := ⟨wd_3_29, wd_3_30, wd_1_5, wd_3_31⟩
theorem mm_X3_renewAll : Cond.instanceMethod yX3_renewAll ∈ TB ∧ Cond.selects RX3 yX3_renewAll yX3_renewAll ∈ TB ∧ Cond.initialized RX3 ∈ TB ∧ Cond.code yX3_renewAll cX3_renewAll 3 none ∈ TB := ⟨wd_3_25, wd_3_26, wd_1_5, wd_3_27⟩
theorem mm_X3_takeOver : Cond.instanceMethod yX3_takeOver ∈ TB ∧ Cond.selects RX3 yX3_takeOver yX3_takeOver ∈ TB ∧ Cond.initialized RX3 ∈ TB ∧ Cond.code yX3_takeOver cX3_takeOver 2 none ∈ TB := ⟨wd_2_92, wd_2_93, wd_1_5, wd_2_94⟩
theorem mm_X3_takePart : Cond.instanceMethod yX3_takePart ∈ TB ∧ Cond.selects RX3 yX3_takePart yX3_takePart ∈ TB ∧ Cond.initialized RX3 ∈ TB ∧ Cond.code yX3_takePart cX3_takePart 4 none ∈ TB := ⟨wd_2_202, wd_2_203, wd_1_5, wd_2_204⟩
theorem mm_X3_wearSum : Cond.instanceMethod yX3_wearSum ∈ TB ∧ Cond.selects RX3 yX3_wearSum yX3_wearSum ∈ TB ∧ Cond.initialized RX3 ∈ TB ∧ Cond.code yX3_wearSum cX3_wearSum 5 (some .int) ∈ TB := ⟨wd_2_230, wd_2_231, wd_1_5, wd_2_232⟩
theorem mm_X4_allColumns : Cond.instanceMethod yX4_allColumns ∈ TB ∧ Cond.selects RX4 yX4_allColumns yX4_allColumns ∈ TB ∧ Cond.initialized RX4 ∈ TB ∧ Cond.code yX4_allColumns cX4_allColumns 1 (some .int) ∈ TB := ⟨wd_2_136, wd_2_137, wd_1_8, wd_2_138⟩
theorem mm_X4_blackCells : Cond.instanceMethod yX4_blackCells ∈ TB ∧ Cond.selects RX4 yX4_blackCells yX4_blackCells ∈ TB ∧ Cond.initialized RX4 ∈ TB ∧ Cond.code yX4_blackCells cX4_blackCells 3 (some .int) ∈ TB := ⟨wd_2_176, wd_2_177, wd_1_8, wd_2_178⟩
theorem mm_X4_emptyColumns : Cond.instanceMethod yX4_emptyColumns ∈ TB ∧ Cond.selects RX4 yX4_emptyColumns yX4_emptyColumns ∈ TB ∧ Cond.initialized RX4 ∈ TB ∧ Cond.code yX4_emptyColumns cX4_emptyColumns 3 (some .int) ∈ TB := ⟨wd_4_5, wd_4_6, wd_1_8, wd_4_7⟩
theorem mm_X4_takeOver : Cond.instanceMethod yX4_takeOver ∈ TB ∧ Cond.selects RX4 yX4_takeOver yX4_takeOver ∈ TB ∧ Cond.initialized RX4 ∈ TB ∧ Cond.code yX4_takeOver cX4_takeOver 2 none ∈ TB := ⟨wd_2_97, wd_2_98, wd_1_8, wd_2_99⟩
theorem mm_X4_value : Cond.instanceMethod yX4_value ∈ TB ∧ Cond.selects RX4 yX4_value yX4_value ∈ TB ∧ Cond.initialized RX4 ∈ TB ∧ Cond.code yX4_value cX4_value 2 (some .int) ∈ TB := ⟨wd_4_0, wd_4_1, wd_1_8, wd_4_2⟩
theorem mm_X5_allEarned : Cond.instanceMethod yX5_allEarned ∈ TB ∧ Cond.selects RX5 yX5_allEarned yX5_allEarned ∈ TB ∧ Cond.initialized RX5 ∈ TB ∧ Cond.code yX5_allEarned cX5_allEarned 3 (some .int) ∈ TB := ⟨wd_3_220, wp_2_0, wd_1_6, wd_3_221⟩
theorem mm_X5_allFailed : Cond.instanceMethod yX5_allFailed ∈ TB ∧ Cond.selects RX5 yX5_allFailed yX5_allFailed ∈ TB ∧ Cond.initialized RX5 ∈ TB ∧ Cond.code yX5_allFailed cX5_allFailed 3 (some .int) ∈ TB := ⟨wd_3_216, wp_1_15, wd_1_6, wd_3_217⟩
theorem mm_X5_allPrinted : Cond.instanceMethod yX5_allPrinted ∈ TB ∧ Cond.selects RX5 yX5_allPrinted yX5_allPrinted ∈ TB ∧ Cond.initialized RX5 ∈ TB ∧ Cond.code yX5_allPrinted cX5_allPrinted 3 (some .int) ∈ TB := ⟨wd_3_212, wp_1_14, wd_1_6, wd_3_213⟩
theorem mm_X5_allRented : Cond.instanceMethod yX5_allRented ∈ TB ∧ Cond.selects RX5 yX5_allRented yX5_allRented ∈ TB ∧ Cond.initialized RX5 ∈ TB ∧ Cond.code yX5_allRented cX5_allRented 3 (some .int) ∈ TB := ⟨wd_3_54, wp_1_11, wd_1_6, wd_3_55⟩
theorem mm_X5_allWear : Cond.instanceMethod yX5_allWear ∈ TB ∧ Cond.selects RX5 yX5_allWear yX5_allWear ∈ TB ∧ Cond.initialized RX5 ∈ TB ∧ Cond.code yX5_allWear cX5_allWear 1 (some .int) ∈ TB := ⟨wd_3_22, wp_1_10, wd_1_6, wd_3_23⟩
theorem mm_X5_bestPlace : Cond.instanceMethod yX5_bestPlace ∈ TB ∧ Cond.selects RX5 yX5_bestPlace yX5_bestPlace ∈ TB ∧ Cond.initialized RX5 ∈ TB ∧ Cond.code yX5_bestPlace cX5_bestPlace 9 (some .int) ∈ TB := ⟨wd_2_194, wd_2_195, wd_1_6, wd_2_196⟩
theorem mm_X5_book : Cond.instanceMethod yX5_book ∈ TB ∧ Cond.selects RX5 yX5_book yX5_book ∈ TB ∧ Cond.initialized RX5 ∈ TB ∧ Cond.code yX5_book cX5_book 5 none ∈ TB := ⟨wd_3_66, wp_1_12, wd_1_6, wd_3_67⟩
theorem mm_X5_dotValue : Cond.instanceMethod yX5_dotValue ∈ TB ∧ Cond.selects RX5 yX5_dotValue yX5_dotValue ∈ TB ∧ Cond.initialized RX5 ∈ TB ∧ Cond.code yX5_dotValue cX5_dotValue 3 (some .int) ∈ TB := ⟨wd_3_227, wd_3_228, wd_1_6, wd_3_229⟩
theorem mm_X5_hasCustomer : Cond.instanceMethod yX5_hasCustomer ∈ TB ∧ Cond.selects RX5 yX5_hasCustomer yX5_hasCustomer ∈ TB ∧ Cond.initialized RX5 ∈ TB ∧ Cond.code yX5_hasCustomer cX5_hasCustomer 2 (some .boolean) ∈ TB := ⟨wd_2_148, wd_2_149, wd_1_6, wd_2_150⟩
theorem mm_X5_hasDot : Cond.instanceMethod yX5_hasDot ∈ TB ∧ Cond.selects RX5 yX5_hasDot yX5_hasDot ∈ TB ∧ Cond.initialized RX5 ∈ TB ∧ Cond.code yX5_hasDot cX5_hasDot 2 (some .boolean) ∈ TB := ⟨wd_2_152, wd_2_153, wd_1_6, wd_2_154⟩
theorem mm_X5_hasLabel : Cond.instanceMethod yX5_hasLabel ∈ TB ∧ Cond.selects RX5 yX5_hasLabel yX5_hasLabel ∈ TB ∧ Cond.initialized RX5 ∈ TB ∧ Cond.code yX5_hasLabel cX5_hasLabel 2 (some .boolean) ∈ TB := ⟨wd_2_132, wd_2_133, wd_1_6, wd_2_134⟩
theorem mm_X5_othersRentOneOf : Cond.instanceMethod yX5_othersRentOneOf ∈ TB ∧ Cond.selects RX5 yX5_othersRentOneOf yX5_othersRentOneOf ∈ TB ∧ Cond.initialized RX5 ∈ TB ∧ Cond.code yX5_othersRentOneOf cX5_othersRentOneOf 5 (some .boolean) ∈ TB := ⟨wd_2_157, wp_1_8, wd_1_6, wd_2_158⟩
theorem mm_X5_priceAt : Cond.instanceMethod yX5_priceAt ∈ TB ∧ Cond.selects RX5 yX5_priceAt yX5_priceAt ∈ TB ∧ Cond.initialized RX5 ∈ TB ∧ Cond.code yX5_priceAt cX5_priceAt 8 (some .int) ∈ TB := ⟨wd_2_222, wd_2_223, wd_1_6, wd_2_224⟩
theorem mm_X5_printAt : Cond.instanceMethod yX5_printAt ∈ TB ∧ Cond.selects RX5 yX5_printAt yX5_printAt ∈ TB ∧ Cond.initialized RX5 ∈ TB ∧ Cond.code yX5_printAt cX5_printAt 6 (some .int) ∈ TB := ⟨wd_3_61, wd_3_62, wd_1_6, wd_3_63⟩
theorem mm_X5_reasonAt : Cond.instanceMethod yX5_reasonAt ∈ TB ∧ Cond.selects RX5 yX5_reasonAt yX5_reasonAt ∈ TB ∧ Cond.initialized RX5 ∈ TB ∧ Cond.code yX5_reasonAt cX5_reasonAt 5 (some .int) ∈ TB := ⟨wd_2_172, wd_2_173, wd_1_6, wd_2_174⟩
theorem mm_X5_renterOf : Cond.instanceMethod yX5_renterOf ∈ TB ∧ Cond.selects RX5 yX5_renterOf yX5_renterOf ∈ TB ∧ Cond.initialized RX5 ∈ TB ∧ Cond.code yX5_renterOf cX5_renterOf 3 (some .int) ∈ TB := ⟨wd_3_232, wp_2_2, wd_1_6, wd_3_233⟩
theorem mm_X5_takeOver : Cond.instanceMethod yX5_takeOver ∈ TB ∧ Cond.selects RX5 yX5_takeOver yX5_takeOver ∈ TB ∧ Cond.initialized RX5 ∈ TB ∧ Cond.code yX5_takeOver cX5_takeOver 3 none ∈ TB := ⟨wd_2_88, wd_2_89, wd_1_6, wd_2_90⟩
theorem mm_X5_unreadableAt : Cond.instanceMethod yX5_unreadableAt ∈ TB ∧ Cond.selects RX5 yX5_unreadableAt yX5_unreadableAt ∈ TB ∧ Cond.initialized RX5 ∈ TB ∧ Cond.code yX5_unreadableAt cX5_unreadableAt 3 (some .int) ∈ TB := ⟨wd_2_198, wd_2_199, wd_1_6, wd_2_200⟩
theorem mm_X5_whyNotAskAbout : Cond.instanceMethod yX5_whyNotAskAbout ∈ TB ∧ Cond.selects RX5 yX5_whyNotAskAbout yX5_whyNotAskAbout ∈ TB ∧ Cond.initialized RX5 ∈ TB ∧ Cond.code yX5_whyNotAskAbout cX5_whyNotAskAbout 4 (some .int) ∈ TB := ⟨wd_2_168, wd_2_169, wd_1_6, wd_2_170⟩
theorem mm_X5_whyNotChangeRow : Cond.instanceMethod yX5_whyNotChangeRow ∈ TB ∧ Cond.selects RX5 yX5_whyNotChangeRow yX5_whyNotChangeRow ∈ TB ∧ Cond.initialized RX5 ∈ TB ∧ Cond.code yX5_whyNotChangeRow cX5_whyNotChangeRow 5 (some .int) ∈ TB := ⟨wd_2_128, wd_2_129, wd_1_6, wd_2_130⟩
theorem mm_X5_whyNotCustomerValue : Cond.instanceMethod yX5_whyNotCustomerValue ∈ TB ∧ Cond.selects RX5 yX5_whyNotCustomerValue yX5_whyNotCustomerValue ∈ TB ∧ Cond.initialized RX5 ∈ TB ∧ Cond.code yX5_whyNotCustomerValue cX5_whyNotCustomerValue 3 (some .int) ∈ TB := ⟨wd_4_164, wd_4_165, wd_1_6, wd_4_166⟩
theorem mm_X5_whyNotDotValue : Cond.instanceMethod yX5_whyNotDotValue ∈ TB ∧ Cond.selects RX5 yX5_whyNotDotValue yX5_whyNotDotValue ∈ TB ∧ Cond.initialized RX5 ∈ TB ∧ Cond.code yX5_whyNotDotValue cX5_whyNotDotValue 3 (some .int) ∈ TB := ⟨wd_4_135, wd_4_136, wd_1_6, wd_4_137⟩
theorem mm_X5_whyNotEndLet : Cond.instanceMethod yX5_whyNotEndLet ∈ TB ∧ Cond.selects RX5 yX5_whyNotEndLet yX5_whyNotEndLet ∈ TB ∧ Cond.initialized RX5 ∈ TB ∧ Cond.code yX5_whyNotEndLet cX5_whyNotEndLet 2 (some .int) ∈ TB := ⟨wd_4_102, wd_4_103, wd_1_6, wd_4_104⟩
theorem mm_X5_whyNotLabelValue : Cond.instanceMethod yX5_whyNotLabelValue ∈ TB ∧ Cond.selects RX5 yX5_whyNotLabelValue yX5_whyNotLabelValue ∈ TB ∧ Cond.initialized RX5 ∈ TB ∧ Cond.code yX5_whyNotLabelValue cX5_whyNotLabelValue 4 (some .int) ∈ TB := ⟨wd_4_146, wd_4_147, wd_1_6, wd_4_148⟩
theorem mm_X5_whyNotLet : Cond.instanceMethod yX5_whyNotLet ∈ TB ∧ Cond.selects RX5 yX5_whyNotLet yX5_whyNotLet ∈ TB ∧ Cond.initialized RX5 ∈ TB ∧ Cond.code yX5_whyNotLet cX5_whyNotLet 4 (some .int) ∈ TB := ⟨wd_2_144, wd_2_145, wd_1_6, wd_2_146⟩
theorem mm_X5_whyNotNewCustomer : Cond.instanceMethod yX5_whyNotNewCustomer ∈ TB ∧ Cond.selects RX5 yX5_whyNotNewCustomer yX5_whyNotNewCustomer ∈ TB ∧ Cond.initialized RX5 ∈ TB ∧ Cond.code yX5_whyNotNewCustomer cX5_whyNotNewCustomer 1 (some .int) ∈ TB := ⟨wd_2_140, wd_2_141, wd_1_6, wd_2_142⟩
theorem mm_X5_whyNotNewDot : Cond.instanceMethod yX5_whyNotNewDot ∈ TB ∧ Cond.selects RX5 yX5_whyNotNewDot yX5_whyNotNewDot ∈ TB ∧ Cond.initialized RX5 ∈ TB ∧ Cond.code yX5_whyNotNewDot cX5_whyNotNewDot 2 (some .int) ∈ TB := ⟨wd_3_1, wd_3_2, wd_1_6, wd_3_3⟩
theorem mm_X5_whyNotNewHead : Cond.instanceMethod yX5_whyNotNewHead ∈ TB ∧ Cond.selects RX5 yX5_whyNotNewHead yX5_whyNotNewHead ∈ TB ∧ Cond.initialized RX5 ∈ TB ∧ Cond.code yX5_whyNotNewHead cX5_whyNotNewHead 2 (some .int) ∈ TB := ⟨wd_2_120, wd_2_121, wd_1_6, wd_2_122⟩
theorem mm_X5_whyNotNewLabel : Cond.instanceMethod yX5_whyNotNewLabel ∈ TB ∧ Cond.selects RX5 yX5_whyNotNewLabel yX5_whyNotNewLabel ∈ TB ∧ Cond.initialized RX5 ∈ TB ∧ Cond.code yX5_whyNotNewLabel cX5_whyNotNewLabel 3 (some .int) ∈ TB := ⟨wd_2_124, wd_2_125, wd_1_6, wd_2_126⟩
theorem mm_X5_whyNotPair : Cond.instanceMethod yX5_whyNotPair ∈ TB ∧ Cond.selects RX5 yX5_whyNotPair yX5_whyNotPair ∈ TB ∧ Cond.initialized RX5 ∈ TB ∧ Cond.code yX5_whyNotPair cX5_whyNotPair 3 (some .int) ∈ TB := ⟨wd_2_190, wd_2_191, wd_1_6, wd_2_192⟩
theorem mm_X5_whyNotPassLines : Cond.instanceMethod yX5_whyNotPassLines ∈ TB ∧ Cond.selects RX5 yX5_whyNotPassLines yX5_whyNotPassLines ∈ TB ∧ Cond.initialized RX5 ∈ TB ∧ Cond.code yX5_whyNotPassLines cX5_whyNotPassLines 2 (some .int) ∈ TB := ⟨wd_2_237, wd_2_238, wd_1_6, wd_2_239⟩
theorem mm_X5_whyNotPrintAt : Cond.instanceMethod yX5_whyNotPrintAt ∈ TB ∧ Cond.selects RX5 yX5_whyNotPrintAt yX5_whyNotPrintAt ∈ TB ∧ Cond.initialized RX5 ∈ TB ∧ Cond.code yX5_whyNotPrintAt cX5_whyNotPrintAt 5 (some .int) ∈ TB := ⟨wd_2_164, wd_2_165, wd_1_6, wd_2_166⟩
theorem mm_X5_whyNotPrintAtBest : Cond.instanceMethod yX5_whyNotPrintAtBest ∈ TB ∧ Cond.selects RX5 yX5_whyNotPrintAtBest yX5_whyNotPrintAtBest ∈ TB ∧ Cond.initialized RX5 ∈ TB ∧ Cond.code yX5_whyNotPrintAtBest cX5_whyNotPrintAtBest 3 (some .int) ∈ TB := ⟨wd_2_186, wd_2_187, wd_1_6, wd_2_188⟩
theorem mm_X7_mix : Cond.static yX7_mix ∈ TB ∧ Cond.initialized yX7_mix.cls ∈ TB ∧ Cond.code yX7_mix cX7_mix 4 (some .long) ∈ TB := ⟨wd_3_96, wd_1_1, wd_3_97⟩
theorem mm_X8_addCustomer : Cond.instanceMethod yX8_addCustomer ∈ TB ∧ Cond.selects RX8 yX8_addCustomer yX8_addCustomer ∈ TB ∧ Cond.initialized RX8 ∈ TB ∧ Cond.code yX8_addCustomer cX8_addCustomer 3 (some .int) ∈ TB := ⟨wd_5_109, wd_5_110, wd_1_10, wd_5_111⟩
theorem mm_X8_addLabel : Cond.instanceMethod yX8_addLabel ∈ TB ∧ Cond.selects RX8 yX8_addLabel yX8_addLabel ∈ TB ∧ Cond.initialized RX8 ∈ TB ∧ Cond.code yX8_addLabel cX8_addLabel 5 (some .int) ∈ TB := ⟨wd_5_78, wd_5_79, wd_1_10, wd_5_80⟩
theorem mm_X8_badOf : Cond.instanceMethod yX8_badOf ∈ TB ∧ Cond.selects RX8 yX8_badOf yX8_badOf ∈ TB ∧ Cond.initialized RX8 ∈ TB ∧ Cond.code yX8_badOf cX8_badOf 3 (some .int) ∈ TB := ⟨wd_5_187, wp_3_8, wd_1_10, wd_5_188⟩
theorem mm_X8_begin : Cond.instanceMethod yX8_begin ∈ TB ∧ Cond.selects RX8 yX8_begin yX8_begin ∈ TB ∧ Cond.initialized RX8 ∈ TB ∧ Cond.code yX8_begin cX8_begin 4 (some .int) ∈ TB := ⟨wd_5_42, wd_5_43, wd_1_10, wd_5_44⟩
theorem mm_X8_best : Cond.instanceMethod yX8_best ∈ TB ∧ Cond.selects RX8 yX8_best yX8_best ∈ TB ∧ Cond.initialized RX8 ∈ TB ∧ Cond.code yX8_best cX8_best 10 (some .int) ∈ TB := ⟨wd_5_183, wp_3_7, wd_1_10, wd_5_184⟩
theorem mm_X8_blacks : Cond.instanceMethod yX8_blacks ∈ TB ∧ Cond.selects RX8 yX8_blacks yX8_blacks ∈ TB ∧ Cond.initialized RX8 ∈ TB ∧ Cond.code yX8_blacks cX8_blacks 4 (some .int) ∈ TB := ⟨wd_5_154, wp_3_3, wd_1_10, wd_5_155⟩
theorem mm_X8_burns : Cond.static yX8_burns ∈ TB ∧ Cond.initialized yX8_burns.cls ∈ TB ∧ Cond.code yX8_burns cX8_burns 7 none ∈ TB := ⟨wd_5_175, wd_1_10, wd_5_176⟩
theorem mm_X8_code : Cond.static yX8_code ∈ TB ∧ Cond.initialized yX8_code.cls ∈ TB ∧ Cond.code yX8_code cX8_code 10 (some .long) ∈ TB := ⟨wd_6_59, wd_1_10, wd_6_60⟩
theorem mm_X8_commandOf : Cond.static yX8_commandOf ∈ TB ∧ Cond.initialized yX8_commandOf.cls ∈ TB ∧ Cond.code yX8_commandOf cX8_commandOf 2 (some .int) ∈ TB := ⟨wd_6_56, wd_1_10, wd_6_57⟩
theorem mm_X8_cool : Cond.instanceMethod yX8_cool ∈ TB ∧ Cond.selects RX8 yX8_cool yX8_cool ∈ TB ∧ Cond.initialized RX8 ∈ TB ∧ Cond.code yX8_cool cX8_cool 3 (some .int) ∈ TB := ⟨wd_5_102, wd_5_103, wd_1_10, wd_5_104⟩
theorem mm_X8_cools : Cond.static yX8_cools ∈ TB ∧ Cond.initialized yX8_cools.cls ∈ TB ∧ Cond.code yX8_cools cX8_cools 3 none ∈ TB := ⟨wd_5_106, wd_1_10, wd_5_107⟩
theorem mm_X8_copies : Cond.instanceMethod yX8_copies ∈ TB ∧ Cond.selects RX8 yX8_copies yX8_copies ∈ TB ∧ Cond.initialized RX8 ∈ TB ∧ Cond.code yX8_copies cX8_copies 2 none ∈ TB := ⟨wd_5_191, wp_3_9, wd_1_10, wd_5_192⟩
theorem mm_X8_customerOf : Cond.instanceMethod yX8_customerOf ∈ TB ∧ Cond.selects RX8 yX8_customerOf yX8_customerOf ∈ TB ∧ Cond.initialized RX8 ∈ TB ∧ Cond.code yX8_customerOf cX8_customerOf 3 (some .int) ∈ TB := ⟨wd_5_130, wp_2_15, wd_1_10, wd_5_131⟩
theorem mm_X8_does : Cond.instanceMethod yX8_does ∈ TB ∧ Cond.selects RX8 yX8_does yX8_does ∈ TB ∧ Cond.initialized RX8 ∈ TB ∧ Cond.code yX8_does cX8_does 1 (some .int) ∈ TB := ⟨wd_6_70, wp_4_6, wd_1_10, wd_6_71⟩
theorem mm_X8_dotOf : Cond.static yX8_dotOf ∈ TB ∧ Cond.initialized yX8_dotOf.cls ∈ TB ∧ Cond.code yX8_dotOf cX8_dotOf 3 (some .int) ∈ TB := ⟨wd_5_61, wd_1_10, wd_5_62⟩
theorem mm_X8_earned : Cond.instanceMethod yX8_earned ∈ TB ∧ Cond.selects RX8 yX8_earned yX8_earned ∈ TB ∧ Cond.initialized RX8 ∈ TB ∧ Cond.code yX8_earned cX8_earned 3 (some .int) ∈ TB := ⟨wd_5_231, wp_3_14, wd_1_10, wd_5_232⟩
theorem mm_X8_empties : Cond.instanceMethod yX8_empties ∈ TB ∧ Cond.selects RX8 yX8_empties yX8_empties ∈ TB ∧ Cond.initialized RX8 ∈ TB ∧ Cond.code yX8_empties cX8_empties 4 (some .int) ∈ TB := ⟨wd_5_211, wp_3_12, wd_1_10, wd_5_212⟩
theorem mm_X8_fade : Cond.static yX8_fade ∈ TB ∧ Cond.initialized yX8_fade.cls ∈ TB ∧ Cond.code yX8_fade cX8_fade 3 (some .int) ∈ TB := ⟨wd_5_172, wd_1_10, wd_5_173⟩
theorem mm_X8_fault : Cond.instanceMethod yX8_fault ∈ TB ∧ Cond.selects RX8 yX8_fault yX8_fault ∈ TB ∧ Cond.initialized RX8 ∈ TB ∧ Cond.code yX8_fault cX8_fault 2 (some .int) ∈ TB := ⟨wd_6_35, wp_4_0, wd_1_10, wd_6_36⟩
theorem mm_X8_frees : Cond.instanceMethod yX8_frees ∈ TB ∧ Cond.selects RX8 yX8_frees yX8_frees ∈ TB ∧ Cond.initialized RX8 ∈ TB ∧ Cond.code yX8_frees cX8_frees 2 none ∈ TB := ⟨wd_5_65, wp_2_8, wd_1_10, wd_5_66⟩
theorem mm_X8_in : Cond.static yX8_in ∈ TB ∧ Cond.initialized yX8_in.cls ∈ TB ∧ Cond.code yX8_in cX8_in 3 (some .boolean) ∈ TB := ⟨wd_5_46, wd_1_10, wd_5_47⟩
theorem mm_X8_isAt : Cond.instanceMethod yX8_isAt ∈ TB ∧ Cond.selects RX8 yX8_isAt yX8_isAt ∈ TB ∧ Cond.initialized RX8 ∈ TB ∧ Cond.code yX8_isAt cX8_isAt 3 (some .boolean) ∈ TB := ⟨wd_6_43, wp_4_2, wd_1_10, wd_6_44⟩
theorem mm_X8_isCustomer : Cond.instanceMethod yX8_isCustomer ∈ TB ∧ Cond.selects RX8 yX8_isCustomer yX8_isCustomer ∈ TB ∧ Cond.initialized RX8 ∈ TB ∧ Cond.code yX8_isCustomer cX8_isCustomer 2 (some .boolean) ∈ TB := ⟨wd_5_118, wp_2_12, wd_1_10, wd_5_119⟩
theorem mm_X8_isDot : Cond.instanceMethod yX8_isDot ∈ TB ∧ Cond.selects RX8 yX8_isDot yX8_isDot ∈ TB ∧ Cond.initialized RX8 ∈ TB ∧ Cond.code yX8_isDot cX8_isDot 2 (some .boolean) ∈ TB := ⟨wd_5_99, wp_2_11, wd_1_10, wd_5_100⟩
theorem mm_X8_isLabel : Cond.instanceMethod yX8_isLabel ∈ TB ∧ Cond.selects RX8 yX8_isLabel yX8_isLabel ∈ TB ∧ Cond.initialized RX8 ∈ TB ∧ Cond.code yX8_isLabel cX8_isLabel 2 (some .boolean) ∈ TB := ⟨wd_5_87, wp_2_9, wd_1_10, wd_5_88⟩
theorem mm_X8_isTaken : Cond.instanceMethod yX8_isTaken ∈ TB ∧ Cond.selects RX8 yX8_isTaken yX8_isTaken ∈ TB ∧ Cond.initialized RX8 ∈ TB ∧ Cond.code yX8_isTaken cX8_isTaken 6 (some .boolean) ∈ TB := ⟨wd_5_122, wp_2_13, wd_1_10, wd_5_123⟩
theorem mm_X8_labelOf : Cond.instanceMethod yX8_labelOf ∈ TB ∧ Cond.selects RX8 yX8_labelOf yX8_labelOf ∈ TB ∧ Cond.initialized RX8 ∈ TB ∧ Cond.code yX8_labelOf cX8_labelOf 3 (some .int) ∈ TB := ⟨wd_5_91, wp_2_10, wd_1_10, wd_5_92⟩
theorem mm_X8_least : Cond.static yX8_least ∈ TB ∧ Cond.initialized yX8_least.cls ∈ TB ∧ Cond.code yX8_least cX8_least 1 (some .int) ∈ TB := ⟨wd_5_72, wd_1_10, wd_5_73⟩
theorem mm_X8_most : Cond.static yX8_most ∈ TB ∧ Cond.initialized yX8_most.cls ∈ TB ∧ Cond.code yX8_most cX8_most 1 (some .int) ∈ TB := ⟨wd_5_75, wd_1_10, wd_5_76⟩
theorem mm_X8_number : Cond.instanceMethod yX8_number ∈ TB ∧ Cond.selects RX8 yX8_number yX8_number ∈ TB ∧ Cond.initialized RX8 ∈ TB ∧ Cond.code yX8_number cX8_number 3 (some .boolean) ∈ TB := ⟨wd_6_66, wp_4_5, wd_1_10, wd_6_67⟩
theorem mm_X8_numbersOf : Cond.static yX8_numbersOf ∈ TB ∧ Cond.initialized yX8_numbersOf.cls ∈ TB ∧ Cond.code yX8_numbersOf cX8_numbersOf 1 (some .int) ∈ TB := ⟨wd_6_62, wd_1_10, wd_6_63⟩
theorem mm_X8_ofLabel : Cond.instanceMethod yX8_ofLabel ∈ TB ∧ Cond.selects RX8 yX8_ofLabel yX8_ofLabel ∈ TB ∧ Cond.initialized RX8 ∈ TB ∧ Cond.code yX8_ofLabel cX8_ofLabel 3 (some .int) ∈ TB := ⟨wd_5_207, wp_3_11, wd_1_10, wd_5_208⟩
theorem mm_X8_ones : Cond.static yX8_ones ∈ TB ∧ Cond.initialized yX8_ones.cls ∈ TB ∧ Cond.code yX8_ones cX8_ones 3 (some .int) ∈ TB := ⟨wd_5_157, wd_1_10, wd_5_158⟩
theorem mm_X8_plays : Cond.instanceMethod yX8_plays ∈ TB ∧ Cond.selects RX8 yX8_plays yX8_plays ∈ TB ∧ Cond.initialized RX8 ∈ TB ∧ Cond.code yX8_plays cX8_plays 7 (some .int) ∈ TB := ⟨wd_5_169, wp_3_6, wd_1_10, wd_5_170⟩
theorem mm_X8_priceOf : Cond.instanceMethod yX8_priceOf ∈ TB ∧ Cond.selects RX8 yX8_priceOf yX8_priceOf ∈ TB ∧ Cond.initialized RX8 ∈ TB ∧ Cond.code yX8_priceOf cX8_priceOf 8 (some .int) ∈ TB := ⟨wd_5_165, wp_3_5, wd_1_10, wd_5_166⟩
theorem mm_X8_print : Cond.instanceMethod yX8_print ∈ TB ∧ Cond.selects RX8 yX8_print yX8_print ∈ TB ∧ Cond.initialized RX8 ∈ TB ∧ Cond.code yX8_print cX8_print 5 (some .int) ∈ TB := ⟨wd_5_141, wd_5_142, wd_1_10, wd_5_143⟩
theorem mm_X8_printBest : Cond.instanceMethod yX8_printBest ∈ TB ∧ Cond.selects RX8 yX8_printBest yX8_printBest ∈ TB ∧ Cond.initialized RX8 ∈ TB ∧ Cond.code yX8_printBest cX8_printBest 6 (some .int) ∈ TB := ⟨wd_5_178, wd_5_179, wd_1_10, wd_5_180⟩
theorem mm_X8_prints : Cond.instanceMethod yX8_prints ∈ TB ∧ Cond.selects RX8 yX8_prints yX8_prints ∈ TB ∧ Cond.initialized RX8 ∈ TB ∧ Cond.code yX8_prints cX8_prints 8 (some .int) ∈ TB := ⟨wd_5_161, wp_3_4, wd_1_10, wd_5_162⟩
theorem mm_X8_reads : Cond.instanceMethod yX8_reads ∈ TB ∧ Cond.selects RX8 yX8_reads yX8_reads ∈ TB ∧ Cond.initialized RX8 ∈ TB ∧ Cond.code yX8_reads cX8_reads 3 (some .boolean) ∈ TB := ⟨wd_6_47, wp_4_3, wd_1_10, wd_6_48⟩
theorem mm_X8_rent : Cond.instanceMethod yX8_rent ∈ TB ∧ Cond.selects RX8 yX8_rent yX8_rent ∈ TB ∧ Cond.initialized RX8 ∈ TB ∧ Cond.code yX8_rent cX8_rent 4 (some .int) ∈ TB := ⟨wd_5_113, wd_5_114, wd_1_10, wd_5_115⟩
theorem mm_X8_rented : Cond.instanceMethod yX8_rented ∈ TB ∧ Cond.selects RX8 yX8_rented yX8_rented ∈ TB ∧ Cond.initialized RX8 ∈ TB ∧ Cond.code yX8_rented cX8_rented 3 (some .int) ∈ TB := ⟨wd_5_134, wp_3_0, wd_1_10, wd_5_135⟩
theorem mm_X8_renter : Cond.instanceMethod yX8_renter ∈ TB ∧ Cond.selects RX8 yX8_renter yX8_renter ∈ TB ∧ Cond.initialized RX8 ∈ TB ∧ Cond.code yX8_renter cX8_renter 4 (some .int) ∈ TB := ⟨wd_5_126, wp_2_14, wd_1_10, wd_5_127⟩
theorem mm_X8_replace : Cond.instanceMethod yX8_replace ∈ TB ∧ Cond.selects RX8 yX8_replace yX8_replace ∈ TB ∧ Cond.initialized RX8 ∈ TB ∧ Cond.code yX8_replace cX8_replace 4 (some .int) ∈ TB := ⟨wd_5_94, wd_5_95, wd_1_10, wd_5_96⟩
theorem mm_X8_saves : Cond.instanceMethod yX8_saves ∈ TB ∧ Cond.selects RX8 yX8_saves yX8_saves ∈ TB ∧ Cond.initialized RX8 ∈ TB ∧ Cond.code yX8_saves cX8_saves 2 none ∈ TB := ⟨wd_5_54, wp_2_6, wd_1_10, wd_5_55⟩
theorem mm_X8_set : Cond.instanceMethod yX8_set ∈ TB ∧ Cond.selects RX8 yX8_set yX8_set ∈ TB ∧ Cond.initialized RX8 ∈ TB ∧ Cond.code yX8_set cX8_set 4 (some .int) ∈ TB := ⟨wd_5_68, wd_5_69, wd_1_10, wd_5_70⟩
theorem mm_X8_setRow : Cond.instanceMethod yX8_setRow ∈ TB ∧ Cond.selects RX8 yX8_setRow yX8_setRow ∈ TB ∧ Cond.initialized RX8 ∈ TB ∧ Cond.code yX8_setRow cX8_setRow 5 (some .int) ∈ TB := ⟨wd_5_82, wd_5_83, wd_1_10, wd_5_84⟩
theorem mm_X8_skips : Cond.instanceMethod yX8_skips ∈ TB ∧ Cond.selects RX8 yX8_skips yX8_skips ∈ TB ∧ Cond.initialized RX8 ∈ TB ∧ Cond.code yX8_skips cX8_skips 1 none ∈ TB := ⟨wd_6_39, wp_4_1, wd_1_10, wd_6_40⟩
theorem mm_X8_sumOf : Cond.instanceMethod yX8_sumOf ∈ TB ∧ Cond.selects RX8 yX8_sumOf yX8_sumOf ∈ TB ∧ Cond.initialized RX8 ∈ TB ∧ Cond.code yX8_sumOf cX8_sumOf 4 (some .int) ∈ TB := ⟨wd_5_58, wp_2_7, wd_1_10, wd_5_59⟩
theorem mm_X8_throwsAt : Cond.instanceMethod yX8_throwsAt ∈ TB ∧ Cond.selects RX8 yX8_throwsAt yX8_throwsAt ∈ TB ∧ Cond.initialized RX8 ∈ TB ∧ Cond.code yX8_throwsAt cX8_throwsAt 2 (some .boolean) ∈ TB := ⟨wd_5_50, wp_2_5, wd_1_10, wd_5_51⟩
theorem mm_X8_valueOf : Cond.instanceMethod yX8_valueOf ∈ TB ∧ Cond.selects RX8 yX8_valueOf yX8_valueOf ∈ TB ∧ Cond.initialized RX8 ∈ TB ∧ Cond.code yX8_valueOf cX8_valueOf 3 (some .int) ∈ TB := ⟨wd_5_199, wp_3_10, wd_1_10, wd_5_200⟩
theorem mm_X8_wholeOf : Cond.instanceMethod yX8_wholeOf ∈ TB ∧ Cond.selects RX8 yX8_wholeOf yX8_wholeOf ∈ TB ∧ Cond.initialized RX8 ∈ TB ∧ Cond.code yX8_wholeOf cX8_wholeOf 2 (some .int) ∈ TB := ⟨wd_5_227, wp_3_13, wd_1_10, wd_5_228⟩
theorem mm_X8_whyNot : Cond.instanceMethod yX8_whyNot ∈ TB ∧ Cond.selects RX8 yX8_whyNot yX8_whyNot ∈ TB ∧ Cond.initialized RX8 ∈ TB ∧ Cond.code yX8_whyNot cX8_whyNot 5 (some .int) ∈ TB := ⟨wd_5_150, wp_3_2, wd_1_10, wd_5_151⟩
theorem mm_X8_wordOf : Cond.instanceMethod yX8_wordOf ∈ TB ∧ Cond.selects RX8 yX8_wordOf yX8_wordOf ∈ TB ∧ Cond.initialized RX8 ∈ TB ∧ Cond.code yX8_wordOf cX8_wordOf 6 (some .long) ∈ TB := ⟨wd_6_51, wp_4_4, wd_1_10, wd_6_52⟩
theorem mm_X8_worn : Cond.instanceMethod yX8_worn ∈ TB ∧ Cond.selects RX8 yX8_worn yX8_worn ∈ TB ∧ Cond.initialized RX8 ∈ TB ∧ Cond.code yX8_worn cX8_worn 3 (some .int) ∈ TB := ⟨wd_6_19, wp_3_15, wd_1_10, wd_6_20⟩
theorem mm_X8_wrong : Cond.instanceMethod yX8_wrong ∈ TB ∧ Cond.selects RX8 yX8_wrong yX8_wrong ∈ TB ∧ Cond.initialized RX8 ∈ TB ∧ Cond.code yX8_wrong cX8_wrong 4 (some .int) ∈ TB := ⟨wd_5_146, wp_3_1, wd_1_10, wd_5_147⟩
end
section
def qJ6_bitCount_0f7a4 : List (Nat × Instr × Nat) := [(0, .iload_n 0, 1), (1, .iload_n 0, 1), (2, .iconst 1, 1), (3, .iushr, 1), (4, .ldc_w 265, 3), (7, .iand, 1), (8, .isub, 1), (9, .istore_n 0, 1), (10, .iload_n 0, 1), (11, .ldc_w 266, 3), (14, .iand, 1), (15, .iload_n 0, 1), (16, .iconst 2, 1), (17, .iushr, 1), (18, .ldc_w 266, 3), (21, .iand, 1), (22, .iadd, 1), (23, .istore_n 0, 1), (24, .iload_n 0, 1), (25, .iload_n 0, 1), (26, .iconst 4, 1), (27, .iushr, 1), (28, .iadd, 1), (29, .ldc_w 267, 3), (32, .iand, 1), (33, .istore_n 0, 1), (34, .iload_n 0, 1), (35, .iload_n 0, 1), (36, .bipush 8, 2), (38, .iushr, 1), (39, .iadd, 1), (40, .istore_n 0, 1), (41, .iload_n 0, 1), (42, .iload_n 0, 1), (43, .bipush 16, 2), (45, .iushr, 1), (46, .iadd, 1), (47, .istore_n 0, 1), (48, .iload_n 0, 1), (49, .bipush 63, 2), (51, .iand, 1), (52, .ireturn, 1)]
theorem kJ6_bitCount_0f7a4 : ∀ q ∈ qJ6_bitCount_0f7a4, decode cJ6_bitCount_0f7a4 q.1 = .ok q.2 := by decide +kernel
def f_J6_bitCount_0f7a4 (a0 : Int32) : Option (Int32) :=
  lt1 (α := Int32) (a0 - (((Int32.toUInt32 a0 >>> (Int32.toUInt32 1 &&& Int32.toUInt32 31)).toInt32) &&& 1431655765)) fun x1 => lt1 (α := Int32) ((x1 &&& 858993459) + (((Int32.toUInt32 x1 >>> (Int32.toUInt32 2 &&& Int32.toUInt32 31)).toInt32) &&& 858993459)) fun x2 => lt1 (α := Int32) ((x2 + ((Int32.toUInt32 x2 >>> (Int32.toUInt32 4 &&& Int32.toUInt32 31)).toInt32)) &&& 252645135) fun x3 => lt1 (α := Int32) (x3 + ((Int32.toUInt32 x3 >>> (Int32.toUInt32 8 &&& Int32.toUInt32 31)).toInt32)) fun x4 => lt1 (α := Int32) (x4 + ((Int32.toUInt32 x4 >>> (Int32.toUInt32 16 &&& Int32.toUInt32 31)).toInt32)) fun x5 => some (x5 &&& 63)
set_option maxRecDepth 100000 in
set_option maxHeartbeats 4000000 in
theorem t_J6_bitCount_0f7a4 {l : Launch} {Z : ZZ} {X : XX} (μ : Mm) (a0 : Int32) (r : Int32)  (h : f_J6_bitCount_0f7a4 a0 = some r) (C : Cx l Z false X cJ6_bitCount_0f7a4 RJ6 1 (some .int)) (E : Ex Z X 0 0 0 (some (.int r)) Z μ) : G Z X 1 0 0 0 [(0, .int a0)] [] μ := by
  unfold f_J6_bitCount_0f7a4 at h
  refine g_iload_n C (i := 0) 0 rfl rfl (dk kJ6_bitCount_0f7a4 0 rfl) ?_
  refine g_iload_n C (i := 0) 0 rfl rfl (dk kJ6_bitCount_0f7a4 1 rfl) ?_
  refine g_iconst C (v := 1) (by decide) (dk kJ6_bitCount_0f7a4 2 rfl) ?_
  refine g_iushr C (dk kJ6_bitCount_0f7a4 3 rfl) ?_
  refine g_ldcw C (v := 1431655765) (C.w wd_2_182) (dk kJ6_bitCount_0f7a4 4 rfl) ?_
  refine g_iand C (dk kJ6_bitCount_0f7a4 5 rfl) ?_
  refine g_isub C (dk kJ6_bitCount_0f7a4 6 rfl) ?_
  obtain ⟨x1, ex1, h⟩ := lt_inv h
  refine g_nmi ex1 ?_
  refine g_istore_n C (i := 0) (lv' := [(0, .int x1)]) (dk kJ6_bitCount_0f7a4 7 rfl) rfl (by decide) rfl ?_
  refine g_iload_n C (i := 0) 0 rfl rfl (dk kJ6_bitCount_0f7a4 8 rfl) ?_
  refine g_ldcw C (v := 858993459) (C.w wd_2_183) (dk kJ6_bitCount_0f7a4 9 rfl) ?_
  refine g_iand C (dk kJ6_bitCount_0f7a4 10 rfl) ?_
  refine g_iload_n C (i := 0) 0 rfl rfl (dk kJ6_bitCount_0f7a4 11 rfl) ?_
  refine g_iconst C (v := 2) (by decide) (dk kJ6_bitCount_0f7a4 12 rfl) ?_
  refine g_iushr C (dk kJ6_bitCount_0f7a4 13 rfl) ?_
  refine g_ldcw C (v := 858993459) (C.w wd_2_183) (dk kJ6_bitCount_0f7a4 14 rfl) ?_
  refine g_iand C (dk kJ6_bitCount_0f7a4 15 rfl) ?_
  refine g_iadd C (dk kJ6_bitCount_0f7a4 16 rfl) ?_
  obtain ⟨x2, ex2, h⟩ := lt_inv h
  refine g_nmi ex2 ?_
  refine g_istore_n C (i := 0) (lv' := [(0, .int x2)]) (dk kJ6_bitCount_0f7a4 17 rfl) rfl (by decide) rfl ?_
  refine g_iload_n C (i := 0) 0 rfl rfl (dk kJ6_bitCount_0f7a4 18 rfl) ?_
  refine g_iload_n C (i := 0) 0 rfl rfl (dk kJ6_bitCount_0f7a4 19 rfl) ?_
  refine g_iconst C (v := 4) (by decide) (dk kJ6_bitCount_0f7a4 20 rfl) ?_
  refine g_iushr C (dk kJ6_bitCount_0f7a4 21 rfl) ?_
  refine g_iadd C (dk kJ6_bitCount_0f7a4 22 rfl) ?_
  refine g_ldcw C (v := 252645135) (C.w wd_2_184) (dk kJ6_bitCount_0f7a4 23 rfl) ?_
  refine g_iand C (dk kJ6_bitCount_0f7a4 24 rfl) ?_
  obtain ⟨x3, ex3, h⟩ := lt_inv h
  refine g_nmi ex3 ?_
  refine g_istore_n C (i := 0) (lv' := [(0, .int x3)]) (dk kJ6_bitCount_0f7a4 25 rfl) rfl (by decide) rfl ?_
  refine g_iload_n C (i := 0) 0 rfl rfl (dk kJ6_bitCount_0f7a4 26 rfl) ?_
  refine g_iload_n C (i := 0) 0 rfl rfl (dk kJ6_bitCount_0f7a4 27 rfl) ?_
  refine g_bipush C (v := 8) (by decide) (dk kJ6_bitCount_0f7a4 28 rfl) ?_
  refine g_iushr C (dk kJ6_bitCount_0f7a4 29 rfl) ?_
  refine g_iadd C (dk kJ6_bitCount_0f7a4 30 rfl) ?_
  obtain ⟨x4, ex4, h⟩ := lt_inv h
  refine g_nmi ex4 ?_
  refine g_istore_n C (i := 0) (lv' := [(0, .int x4)]) (dk kJ6_bitCount_0f7a4 31 rfl) rfl (by decide) rfl ?_
  refine g_iload_n C (i := 0) 0 rfl rfl (dk kJ6_bitCount_0f7a4 32 rfl) ?_
  refine g_iload_n C (i := 0) 0 rfl rfl (dk kJ6_bitCount_0f7a4 33 rfl) ?_
  refine g_bipush C (v := 16) (by decide) (dk kJ6_bitCount_0f7a4 34 rfl) ?_
  refine g_iushr C (dk kJ6_bitCount_0f7a4 35 rfl) ?_
  refine g_iadd C (dk kJ6_bitCount_0f7a4 36 rfl) ?_
  obtain ⟨x5, ex5, h⟩ := lt_inv h
  refine g_nmi ex5 ?_
  refine g_istore_n C (i := 0) (lv' := [(0, .int x5)]) (dk kJ6_bitCount_0f7a4 37 rfl) rfl (by decide) rfl ?_
  refine g_iload_n C (i := 0) 0 rfl rfl (dk kJ6_bitCount_0f7a4 38 rfl) ?_
  refine g_bipush C (v := 63) (by decide) (dk kJ6_bitCount_0f7a4 39 rfl) ?_
  refine g_iand C (dk kJ6_bitCount_0f7a4 40 rfl) ?_
  cases h
  exact g_iret C E rfl rfl (Nat.le_refl 0) (Nat.le_refl 0) (dk kJ6_bitCount_0f7a4 41 rfl)
theorem ct_J6_bitCount_0f7a4 {l : Launch} {Z : ZZ} {μ : Mm} {a0 : Int32} {r : Int32}  (h : f_J6_bitCount_0f7a4 a0 = some r) : CtM l Z false yJ6_bitCount_0f7a4 cJ6_bitCount_0f7a4 1 (some .int) 0 0 0 [.int a0] μ (some (.int r)) Z μ := ct_of rfl rfl (Nat.le_of_ble_eq_true rfl) (fun X C E => t_J6_bitCount_0f7a4 μ a0 r  h C E)

def qX1_append : List (Nat × Instr × Nat) := [(0, .aload_n 0, 1), (1, .getfield 9, 3), (4, .aload_n 0, 1), (5, .getfield 32, 3), (8, .iload_n 1, 1), (9, .i2c, 1), (10, .castore, 1), (11, .aload_n 0, 1), (12, .dup, 1), (13, .getfield 32, 3), (16, .iconst 1, 1), (17, .iadd, 1), (18, .putfield 32, 3), (21, .aload_n 0, 1), (22, .getfield 32, 3), (25, .ireturn, 1)]
theorem kX1_append : ∀ q ∈ qX1_append, decode cX1_append q.1 = .ok q.2 := by decide +kernel
def f_X1_append (K : Nat → Nat × Nat) (μ : Mm) (a0 : Nat) (a1 : Int32) : Option (Int32 × Mm) :=
  bd (rf K μ a0 0 7) fun b1 => gd (inb (μ.1 a0 1) (K b1).2) <| lt1 (sI μ b1 (ix (μ.1 a0 1)) (vp_nar .char ((Int32.toUInt32 a1 % 65536).toInt32))) fun μ3 => lt1 (sI μ3 a0 1 ((μ3.1 a0 1) + 1)) fun μ4 => some ((μ4.1 a0 1), μ4)
set_option maxRecDepth 100000 in
set_option maxHeartbeats 4000000 in
theorem t_X1_append {l : Launch} {Z : ZZ} {X : XX} (μ : Mm) (a0 : Nat) (a1 : Int32) (r : Int32) (μ' : Mm) (k0 : (zk Z a0).1 = 0) (h : f_X1_append (zk Z) μ a0 a1 = some (r, μ')) (C : Cx l Z false X cX1_append RX1 2 (some .int)) (E : Ex Z X 0 0 0 (some (.int r)) Z μ') : G Z X 2 0 0 0 [(0, .ref (za Z a0)), (1, .int a1)] [] μ := by
  unfold f_X1_append at h
  refine g_aload_n C (i := 0) 0 rfl rfl (dk kX1_append 0 rfl) ?_
  obtain ⟨b1, eb1, h⟩ := bd_inv h
  obtain ⟨rb1, kb1⟩ := rf_inv eb1
  refine gR_0_0 C k0 (C.w wd_1_40) rb1 (dk kX1_append 1 rfl) ?_
  refine g_aload_n C (i := 0) 0 rfl rfl (dk kX1_append 2 rfl) ?_
  refine gI_0_1 C k0 (C.w wd_1_41) (dk kX1_append 3 rfl) ?_
  refine g_iload_n C (i := 1) 1 rfl rfl (dk kX1_append 4 rfl) ?_
  refine g_i2c C (dk kX1_append 5 rfl) ?_
  obtain ⟨c2, h⟩ := gd_inv h
  obtain ⟨μ3, eμ3, h⟩ := lt_inv h
  refine g_cast C kb1 c2 eμ3 (dk kX1_append 6 rfl) ?_
  refine g_aload_n C (i := 0) 0 rfl rfl (dk kX1_append 7 rfl) ?_
  refine g_dup C rfl (dk kX1_append 8 rfl) ?_
  refine gI_0_1 C k0 (C.w wd_1_41) (dk kX1_append 9 rfl) ?_
  refine g_iconst C (v := 1) (by decide) (dk kX1_append 10 rfl) ?_
  refine g_iadd C (dk kX1_append 11 rfl) ?_
  obtain ⟨μ4, eμ4, h⟩ := lt_inv h
  refine pI_0_1 C k0 (C.w wd_1_41) eμ4 (dk kX1_append 12 rfl) ?_
  refine g_aload_n C (i := 0) 0 rfl rfl (dk kX1_append 13 rfl) ?_
  refine gI_0_1 C k0 (C.w wd_1_41) (dk kX1_append 14 rfl) ?_
  cases h
  exact g_iret C E rfl rfl (Nat.le_refl 0) (Nat.le_refl 0) (dk kX1_append 15 rfl)
theorem ct_X1_append {l : Launch} {Z : ZZ} {μ : Mm} {a0 : Nat} {a1 : Int32} {r : Int32} {μ' : Mm} (k0 : (zk Z a0).1 = 0) (h : f_X1_append (zk Z) μ a0 a1 = some (r, μ')) : CtM l Z false yX1_append cX1_append 2 (some .int) 0 0 0 [.ref (za Z a0), .int a1] μ (some (.int r)) Z μ' := ct_of rfl rfl (Nat.le_of_ble_eq_true rfl) (fun X C E => t_X1_append μ a0 a1 r μ' k0 h C E)

def qX1_empty : List (Nat × Instr × Nat) := [(0, .aload_n 0, 1), (1, .getfield 32, 3), (4, .istore_n 1, 1), (5, .aload_n 0, 1), (6, .iconst 0, 1), (7, .putfield 32, 3), (10, .iload_n 1, 1), (11, .ireturn, 1)]
theorem kX1_empty : ∀ q ∈ qX1_empty, decode cX1_empty q.1 = .ok q.2 := by decide +kernel
def f_X1_empty (K : Nat → Nat × Nat) (μ : Mm) (a0 : Nat) : Option (Int32 × Mm) :=
  lt1 (α := Int32) (μ.1 a0 1) fun x1 => lt1 (sI μ a0 1 0) fun μ2 => some (x1, μ2)
set_option maxRecDepth 100000 in
set_option maxHeartbeats 4000000 in
theorem t_X1_empty {l : Launch} {Z : ZZ} {X : XX} (μ : Mm) (a0 : Nat) (r : Int32) (μ' : Mm) (k0 : (zk Z a0).1 = 0) (h : f_X1_empty (zk Z) μ a0 = some (r, μ')) (C : Cx l Z false X cX1_empty RX1 2 (some .int)) (E : Ex Z X 0 0 0 (some (.int r)) Z μ') : G Z X 2 0 0 0 [(0, .ref (za Z a0))] [] μ := by
  unfold f_X1_empty at h
  refine g_aload_n C (i := 0) 0 rfl rfl (dk kX1_empty 0 rfl) ?_
  refine gI_0_1 C k0 (C.w wd_1_41) (dk kX1_empty 1 rfl) ?_
  obtain ⟨x1, ex1, h⟩ := lt_inv h
  refine g_nmi ex1 ?_
  refine g_istore_n C (i := 1) (lv' := [(1, .int x1), (0, .ref (za Z a0))]) (dk kX1_empty 2 rfl) rfl (by decide) rfl ?_
  refine g_aload_n C (i := 0) 1 rfl rfl (dk kX1_empty 3 rfl) ?_
  refine g_iconst C (v := 0) (by decide) (dk kX1_empty 4 rfl) ?_
  obtain ⟨μ2, eμ2, h⟩ := lt_inv h
  refine pI_0_1 C k0 (C.w wd_1_41) eμ2 (dk kX1_empty 5 rfl) ?_
  refine g_iload_n C (i := 1) 0 rfl rfl (dk kX1_empty 6 rfl) ?_
  cases h
  exact g_iret C E rfl rfl (Nat.le_refl 0) (Nat.le_refl 0) (dk kX1_empty 7 rfl)
theorem ct_X1_empty {l : Launch} {Z : ZZ} {μ : Mm} {a0 : Nat} {r : Int32} {μ' : Mm} (k0 : (zk Z a0).1 = 0) (h : f_X1_empty (zk Z) μ a0 = some (r, μ')) : CtM l Z false yX1_empty cX1_empty 2 (some .int) 0 0 0 [.ref (za Z a0)] μ (some (.int r)) Z μ' := ct_of rfl rfl (Nat.le_of_ble_eq_true rfl) (fun X C E => t_X1_empty μ a0 r μ' k0 h C E)

def qX1_rewind : List (Nat × Instr × Nat) := [(0, .aload_n 0, 1), (1, .iconst 0, 1), (2, .putfield 35, 3), (5, .aload_n 0, 1), (6, .iconst (-1), 1), (7, .putfield 15, 3), (10, .return_, 1)]
theorem kX1_rewind : ∀ q ∈ qX1_rewind, decode cX1_rewind q.1 = .ok q.2 := by decide +kernel
def f_X1_rewind (K : Nat → Nat × Nat) (μ : Mm) (a0 : Nat) : Option (Mm) :=
  lt1 (sI μ a0 2 0) fun μ1 => lt1 (sI μ1 a0 3 (-1)) fun μ2 => some (μ2)
set_option maxRecDepth 100000 in
set_option maxHeartbeats 4000000 in
theorem t_X1_rewind {l : Launch} {Z : ZZ} {X : XX} (μ : Mm) (a0 : Nat) (μ' : Mm) (k0 : (zk Z a0).1 = 0) (h : f_X1_rewind (zk Z) μ a0 = some μ') (C : Cx l Z false X cX1_rewind RX1 1 none) (E : Ex Z X 0 0 0 none Z μ') : G Z X 1 0 0 0 [(0, .ref (za Z a0))] [] μ := by
  unfold f_X1_rewind at h
  refine g_aload_n C (i := 0) 0 rfl rfl (dk kX1_rewind 0 rfl) ?_
  refine g_iconst C (v := 0) (by decide) (dk kX1_rewind 1 rfl) ?_
  obtain ⟨μ1, eμ1, h⟩ := lt_inv h
  refine pI_0_2 C k0 (C.w wd_1_43) eμ1 (dk kX1_rewind 2 rfl) ?_
  refine g_aload_n C (i := 0) 0 rfl rfl (dk kX1_rewind 3 rfl) ?_
  refine g_iconst C (v := (-1)) (by decide) (dk kX1_rewind 4 rfl) ?_
  obtain ⟨μ2, eμ2, h⟩ := lt_inv h
  refine pI_0_3 C k0 (C.w wd_1_44) eμ2 (dk kX1_rewind 5 rfl) ?_
  cases h
  exact g_vret C E (Nat.le_refl 0) (Nat.le_refl 0) (dk kX1_rewind 6 rfl)
theorem ct_X1_rewind {l : Launch} {Z : ZZ} {μ : Mm} {a0 : Nat} {μ' : Mm} (k0 : (zk Z a0).1 = 0) (h : f_X1_rewind (zk Z) μ a0 = some μ') : CtM l Z false yX1_rewind cX1_rewind 1 none 0 0 0 [.ref (za Z a0)] μ none Z μ' := ct_of rfl rfl (Nat.le_of_ble_eq_true rfl) (fun X C E => t_X1_rewind μ a0 μ' k0 h C E)

def qX1_skipSpaces : List (Nat × Instr × Nat) := [(0, .aload_n 0, 1), (1, .getfield 35, 3), (4, .aload_n 0, 1), (5, .getfield 32, 3), (8, .if_icmp .ge 30, 3), (11, .aload_n 0, 1), (12, .getfield 9, 3), (15, .aload_n 0, 1), (16, .getfield 35, 3), (19, .caload, 1), (20, .bipush 32, 2), (22, .if_icmp .ne 16, 3), (25, .aload_n 0, 1), (26, .dup, 1), (27, .getfield 35, 3), (30, .iconst 1, 1), (31, .iadd, 1), (32, .putfield 35, 3), (35, .goto (-35), 3), (38, .return_, 1)]
theorem kX1_skipSpaces : ∀ q ∈ qX1_skipSpaces, decode cX1_skipSpaces q.1 = .ok q.2 := by decide +kernel
def f_X1_skipSpaces_l0 (K : Nat → Nat × Nat) (v0 : Nat) : Nat → Mm → Option (Mm)
  | 0, _ => none
  | n + 1, μ => if (μ.1 v0 1) ≤ (μ.1 v0 2) then (some μ) else (bd (rf K μ v0 0 7) fun b2 => gd (inb (μ.1 v0 2) (K b2).2) <| if (μ.1 b2 (ix (μ.1 v0 2))) = 32 then (lt1 (sI μ v0 2 ((μ.1 v0 2) + 1)) fun μ5 => f_X1_skipSpaces_l0 K v0 n μ5) else (some μ))
def f_X1_skipSpaces (K : Nat → Nat × Nat) (μ : Mm) (a0 : Nat) : Option (Mm) :=
  bd (f_X1_skipSpaces_l0 K a0 FU μ) fun q6 => lt1 q6 fun μ7 => some (μ7)
set_option maxRecDepth 100000 in
set_option maxHeartbeats 4000000 in
theorem gl_X1_skipSpaces_0 {l : Launch} {Z : ZZ} {X : XX} (v0 : Nat) (k0 : (zk Z v0).1 = 0) (C : Cx l Z false X cX1_skipSpaces RX1 1 none) (E : xR X = rmm 0 0 0) : ∀ (n : Nat) (μ : Mm) (y : Mm), f_X1_skipSpaces_l0 (zk Z) v0 n μ = some y → G Z X 1 0 0 38 [] [] y → G Z X 1 0 0 0 [(0, .ref (za Z v0))] [] μ := by
  intro n
  induction n with
  | zero => intro μ y h he; unfold f_X1_skipSpaces_l0 at h; cases h
  | succ n ih =>
    intro μ y h he
    unfold f_X1_skipSpaces_l0 at h
    refine g_aload_n C (i := 0) 0 rfl rfl (dk kX1_skipSpaces 0 rfl) ?_
    refine gI_0_2 C k0 (C.w wd_1_43) (dk kX1_skipSpaces 1 rfl) ?_
    refine g_aload_n C (i := 0) 0 rfl rfl (dk kX1_skipSpaces 2 rfl) ?_
    refine gI_0_1 C k0 (C.w wd_1_41) (dk kX1_skipSpaces 3 rfl) ?_
    refine g_icmp_ge C (tgt := 38) (dk kX1_skipSpaces 4 rfl) (by decide) (fun c1 => ?_) (fun c1 => ?_)
    · replace h := ite_t h c1
      cases h
      exact g_sub [] rfl he
    · replace h := ite_f h c1
      refine g_aload_n C (i := 0) 0 rfl rfl (dk kX1_skipSpaces 5 rfl) ?_
      obtain ⟨b2, eb2, h⟩ := bd_inv h
      obtain ⟨rb2, kb2⟩ := rf_inv eb2
      refine gR_0_0 C k0 (C.w wd_1_40) rb2 (dk kX1_skipSpaces 6 rfl) ?_
      refine g_aload_n C (i := 0) 0 rfl rfl (dk kX1_skipSpaces 7 rfl) ?_
      refine gI_0_2 C k0 (C.w wd_1_43) (dk kX1_skipSpaces 8 rfl) ?_
      obtain ⟨c3, h⟩ := gd_inv h
      refine g_cald C kb2 c3 (dk kX1_skipSpaces 9 rfl) ?_
      refine g_bipush C (v := 32) (by decide) (dk kX1_skipSpaces 10 rfl) ?_
      refine g_icmp_ne C (tgt := 38) (dk kX1_skipSpaces 11 rfl) (by decide) (fun c4 => ?_) (fun c4 => ?_)
      · replace h := ite_f h c4
        cases h
        exact g_sub [] rfl he
      · replace h := ite_t h c4
        refine g_aload_n C (i := 0) 0 rfl rfl (dk kX1_skipSpaces 12 rfl) ?_
        refine g_dup C rfl (dk kX1_skipSpaces 13 rfl) ?_
        refine gI_0_2 C k0 (C.w wd_1_43) (dk kX1_skipSpaces 14 rfl) ?_
        refine g_iconst C (v := 1) (by decide) (dk kX1_skipSpaces 15 rfl) ?_
        refine g_iadd C (dk kX1_skipSpaces 16 rfl) ?_
        obtain ⟨μ5, eμ5, h⟩ := lt_inv h
        refine pI_0_2 C k0 (C.w wd_1_43) eμ5 (dk kX1_skipSpaces 17 rfl) ?_
        refine g_goto C (tgt := 0) (dk kX1_skipSpaces 18 rfl) (by decide) ?_
        exact g_sub [0] rfl (ih μ5  y h he)
set_option maxRecDepth 100000 in
set_option maxHeartbeats 4000000 in
theorem t_X1_skipSpaces {l : Launch} {Z : ZZ} {X : XX} (μ : Mm) (a0 : Nat) (μ' : Mm) (k0 : (zk Z a0).1 = 0) (h : f_X1_skipSpaces (zk Z) μ a0 = some μ') (C : Cx l Z false X cX1_skipSpaces RX1 1 none) (E : Ex Z X 0 0 0 none Z μ') : G Z X 1 0 0 0 [(0, .ref (za Z a0))] [] μ := by
  unfold f_X1_skipSpaces at h
  obtain ⟨q6, eq6, h⟩ := bd_inv h
  refine g_sub [0] (lv' := [(0, .ref (za Z a0))]) rfl ?_
  refine gl_X1_skipSpaces_0 a0 k0 C E.2 FU μ  _ eq6 ?_
  obtain ⟨μ7, eμ7, h⟩ := lt_inv h
  rw [← eμ7]
  cases h
  exact g_vret C E (Nat.le_refl 0) (Nat.le_refl 0) (dk kX1_skipSpaces 19 rfl)
theorem ct_X1_skipSpaces {l : Launch} {Z : ZZ} {μ : Mm} {a0 : Nat} {μ' : Mm} (k0 : (zk Z a0).1 = 0) (h : f_X1_skipSpaces (zk Z) μ a0 = some μ') : CtM l Z false yX1_skipSpaces cX1_skipSpaces 1 none 0 0 0 [.ref (za Z a0)] μ none Z μ' := ct_of rfl rfl (Nat.le_of_ble_eq_true rfl) (fun X C E => t_X1_skipSpaces μ a0 μ' k0 h C E)

def qX1_skipLetters : List (Nat × Instr × Nat) := [(0, .aload_n 0, 1), (1, .getfield 35, 3), (4, .aload_n 0, 1), (5, .getfield 32, 3), (8, .if_icmp .ge 44, 3), (11, .aload_n 0, 1), (12, .getfield 9, 3), (15, .aload_n 0, 1), (16, .getfield 35, 3), (19, .caload, 1), (20, .bipush 97, 2), (22, .if_icmp .lt 30, 3), (25, .aload_n 0, 1), (26, .getfield 9, 3), (29, .aload_n 0, 1), (30, .getfield 35, 3), (33, .caload, 1), (34, .bipush 122, 2), (36, .if_icmp .gt 16, 3), (39, .aload_n 0, 1), (40, .dup, 1), (41, .getfield 35, 3), (44, .iconst 1, 1), (45, .iadd, 1), (46, .putfield 35, 3), (49, .goto (-49), 3), (52, .return_, 1)]
theorem kX1_skipLetters : ∀ q ∈ qX1_skipLetters, decode cX1_skipLetters q.1 = .ok q.2 := by decide +kernel
def f_X1_skipLetters_l0 (K : Nat → Nat × Nat) (v0 : Nat) : Nat → Mm → Option (Mm)
  | 0, _ => none
  | n + 1, μ => if (μ.1 v0 1) ≤ (μ.1 v0 2) then (some μ) else (bd (rf K μ v0 0 7) fun b2 => gd (inb (μ.1 v0 2) (K b2).2) <| if (μ.1 b2 (ix (μ.1 v0 2))) < 97 then (some μ) else (bd (rf K μ v0 0 7) fun b5 => gd (inb (μ.1 v0 2) (K b5).2) <| if 122 < (μ.1 b5 (ix (μ.1 v0 2))) then (some μ) else (lt1 (sI μ v0 2 ((μ.1 v0 2) + 1)) fun μ8 => f_X1_skipLetters_l0 K v0 n μ8)))
def f_X1_skipLetters (K : Nat → Nat × Nat) (μ : Mm) (a0 : Nat) : Option (Mm) :=
  bd (f_X1_skipLetters_l0 K a0 FU μ) fun q9 => lt1 q9 fun μ10 => some (μ10)
set_option maxRecDepth 100000 in
set_option maxHeartbeats 4000000 in
theorem gl_X1_skipLetters_0 {l : Launch} {Z : ZZ} {X : XX} (v0 : Nat) (k0 : (zk Z v0).1 = 0) (C : Cx l Z false X cX1_skipLetters RX1 1 none) (E : xR X = rmm 0 0 0) : ∀ (n : Nat) (μ : Mm) (y : Mm), f_X1_skipLetters_l0 (zk Z) v0 n μ = some y → G Z X 1 0 0 52 [] [] y → G Z X 1 0 0 0 [(0, .ref (za Z v0))] [] μ := by
  intro n
  induction n with
  | zero => intro μ y h he; unfold f_X1_skipLetters_l0 at h; cases h
  | succ n ih =>
    intro μ y h he
    unfold f_X1_skipLetters_l0 at h
    refine g_aload_n C (i := 0) 0 rfl rfl (dk kX1_skipLetters 0 rfl) ?_
    refine gI_0_2 C k0 (C.w wd_1_43) (dk kX1_skipLetters 1 rfl) ?_
    refine g_aload_n C (i := 0) 0 rfl rfl (dk kX1_skipLetters 2 rfl) ?_
    refine gI_0_1 C k0 (C.w wd_1_41) (dk kX1_skipLetters 3 rfl) ?_
    refine g_icmp_ge C (tgt := 52) (dk kX1_skipLetters 4 rfl) (by decide) (fun c1 => ?_) (fun c1 => ?_)
    · replace h := ite_t h c1
      cases h
      exact g_sub [] rfl he
    · replace h := ite_f h c1
      refine g_aload_n C (i := 0) 0 rfl rfl (dk kX1_skipLetters 5 rfl) ?_
      obtain ⟨b2, eb2, h⟩ := bd_inv h
      obtain ⟨rb2, kb2⟩ := rf_inv eb2
      refine gR_0_0 C k0 (C.w wd_1_40) rb2 (dk kX1_skipLetters 6 rfl) ?_
      refine g_aload_n C (i := 0) 0 rfl rfl (dk kX1_skipLetters 7 rfl) ?_
      refine gI_0_2 C k0 (C.w wd_1_43) (dk kX1_skipLetters 8 rfl) ?_
      obtain ⟨c3, h⟩ := gd_inv h
      refine g_cald C kb2 c3 (dk kX1_skipLetters 9 rfl) ?_
      refine g_bipush C (v := 97) (by decide) (dk kX1_skipLetters 10 rfl) ?_
      refine g_icmp_lt C (tgt := 52) (dk kX1_skipLetters 11 rfl) (by decide) (fun c4 => ?_) (fun c4 => ?_)
      · replace h := ite_t h c4
        cases h
        exact g_sub [] rfl he
      · replace h := ite_f h c4
        refine g_aload_n C (i := 0) 0 rfl rfl (dk kX1_skipLetters 12 rfl) ?_
        obtain ⟨b5, eb5, h⟩ := bd_inv h
        obtain ⟨rb5, kb5⟩ := rf_inv eb5
        refine gR_0_0 C k0 (C.w wd_1_40) rb5 (dk kX1_skipLetters 13 rfl) ?_
        refine g_aload_n C (i := 0) 0 rfl rfl (dk kX1_skipLetters 14 rfl) ?_
        refine gI_0_2 C k0 (C.w wd_1_43) (dk kX1_skipLetters 15 rfl) ?_
        obtain ⟨c6, h⟩ := gd_inv h
        refine g_cald C kb5 c6 (dk kX1_skipLetters 16 rfl) ?_
        refine g_bipush C (v := 122) (by decide) (dk kX1_skipLetters 17 rfl) ?_
        refine g_icmp_gt C (tgt := 52) (dk kX1_skipLetters 18 rfl) (by decide) (fun c7 => ?_) (fun c7 => ?_)
        · replace h := ite_t h c7
          cases h
          exact g_sub [] rfl he
        · replace h := ite_f h c7
          refine g_aload_n C (i := 0) 0 rfl rfl (dk kX1_skipLetters 19 rfl) ?_
          refine g_dup C rfl (dk kX1_skipLetters 20 rfl) ?_
          refine gI_0_2 C k0 (C.w wd_1_43) (dk kX1_skipLetters 21 rfl) ?_
          refine g_iconst C (v := 1) (by decide) (dk kX1_skipLetters 22 rfl) ?_
          refine g_iadd C (dk kX1_skipLetters 23 rfl) ?_
          obtain ⟨μ8, eμ8, h⟩ := lt_inv h
          refine pI_0_2 C k0 (C.w wd_1_43) eμ8 (dk kX1_skipLetters 24 rfl) ?_
          refine g_goto C (tgt := 0) (dk kX1_skipLetters 25 rfl) (by decide) ?_
          exact g_sub [0] rfl (ih μ8  y h he)
set_option maxRecDepth 100000 in
set_option maxHeartbeats 4000000 in
theorem t_X1_skipLetters {l : Launch} {Z : ZZ} {X : XX} (μ : Mm) (a0 : Nat) (μ' : Mm) (k0 : (zk Z a0).1 = 0) (h : f_X1_skipLetters (zk Z) μ a0 = some μ') (C : Cx l Z false X cX1_skipLetters RX1 1 none) (E : Ex Z X 0 0 0 none Z μ') : G Z X 1 0 0 0 [(0, .ref (za Z a0))] [] μ := by
  unfold f_X1_skipLetters at h
  obtain ⟨q9, eq9, h⟩ := bd_inv h
  refine g_sub [0] (lv' := [(0, .ref (za Z a0))]) rfl ?_
  refine gl_X1_skipLetters_0 a0 k0 C E.2 FU μ  _ eq9 ?_
  obtain ⟨μ10, eμ10, h⟩ := lt_inv h
  rw [← eμ10]
  cases h
  exact g_vret C E (Nat.le_refl 0) (Nat.le_refl 0) (dk kX1_skipLetters 26 rfl)
theorem ct_X1_skipLetters {l : Launch} {Z : ZZ} {μ : Mm} {a0 : Nat} {μ' : Mm} (k0 : (zk Z a0).1 = 0) (h : f_X1_skipLetters (zk Z) μ a0 = some μ') : CtM l Z false yX1_skipLetters cX1_skipLetters 1 none 0 0 0 [.ref (za Z a0)] μ none Z μ' := ct_of rfl rfl (Nat.le_of_ble_eq_true rfl) (fun X C E => t_X1_skipLetters μ a0 μ' k0 h C E)

def qX1_readNumber : List (Nat × Instr × Nat) := [(0, .aload_n 0, 1), (1, .getfield 35, 3), (4, .istore_n 2, 1), (5, .aload_n 0, 1), (6, .invokevirtual 45, 3), (9, .aload_n 0, 1), (10, .getfield 35, 3), (13, .iload_n 2, 1), (14, .if_icmp .ne 5, 3), (17, .iconst 0, 1), (18, .ireturn, 1), (19, .iconst 0, 1), (20, .istore_n 3, 1), (21, .iconst 0, 1), (22, .istore 4, 2), (24, .iload 4, 2), (26, .iconst 4, 1), (27, .if_icmp .ge 76, 3), (30, .aload_n 0, 1), (31, .getfield 35, 3), (34, .aload_n 0, 1), (35, .getfield 32, 3), (38, .if_icmp .ge 65, 3), (41, .aload_n 0, 1), (42, .getfield 9, 3), (45, .aload_n 0, 1), (46, .getfield 35, 3), (49, .caload, 1), (50, .bipush 48, 2), (52, .if_icmp .lt 51, 3), (55, .aload_n 0, 1), (56, .getfield 9, 3), (59, .aload_n 0, 1), (60, .getfield 35, 3), (63, .caload, 1), (64, .bipush 57, 2), (66, .if_icmp .gt 37, 3), (69, .bipush 10, 2), (71, .iload_n 3, 1), (72, .imul, 1), (73, .aload_n 0, 1), (74, .getfield 9, 3), (77, .aload_n 0, 1), (78, .getfield 35, 3), (81, .caload, 1), (82, .iadd, 1), (83, .bipush 48, 2), (85, .isub, 1), (86, .istore_n 3, 1), (87, .iinc 4 1, 3), (90, .aload_n 0, 1), (91, .dup, 1), (92, .getfield 35, 3), (95, .iconst 1, 1), (96, .iadd, 1), (97, .putfield 35, 3), (100, .goto (-76), 3), (103, .aload_n 0, 1), (104, .getfield 28, 3), (107, .iload_n 1, 1), (108, .iload_n 3, 1), (109, .iastore, 1), (110, .iload 4, 2), (112, .ifCond .le 7, 3), (115, .iconst 1, 1), (116, .goto 4, 3), (119, .iconst 0, 1), (120, .ireturn, 1)]
theorem kX1_readNumber : ∀ q ∈ qX1_readNumber, decode cX1_readNumber q.1 = .ok q.2 := by decide +kernel
def f_X1_readNumber_l24 (K : Nat → Nat × Nat) (v0 : Nat) (v1 : Int32) : Nat → Mm → Int32 → Int32 → Option (Int32 × Int32 × Mm)
  | 0, _, _, _ => none
  | n + 1, μ, v3, v4 => if 4 ≤ v4 then (some (v3, v4, μ)) else (if (μ.1 v0 1) ≤ (μ.1 v0 2) then (some (v3, v4, μ)) else (bd (rf K μ v0 0 7) fun b7 => gd (inb (μ.1 v0 2) (K b7).2) <| if (μ.1 b7 (ix (μ.1 v0 2))) < 48 then (some (v3, v4, μ)) else (bd (rf K μ v0 0 7) fun b10 => gd (inb (μ.1 v0 2) (K b10).2) <| if 57 < (μ.1 b10 (ix (μ.1 v0 2))) then (some (v3, v4, μ)) else (bd (rf K μ v0 0 7) fun b13 => gd (inb (μ.1 v0 2) (K b13).2) <| lt1 (α := Int32) (((10 * v3) + (μ.1 b13 (ix (μ.1 v0 2)))) - 48) fun x15 => lt1 (α := Int32) (v4 + 1) fun x16 => lt1 (sI μ v0 2 ((μ.1 v0 2) + 1)) fun μ17 => f_X1_readNumber_l24 K v0 v1 n μ17 x15 x16))))
def f_X1_readNumber (K : Nat → Nat × Nat) (μ : Mm) (a0 : Nat) (a1 : Int32) : Option (Int32 × Mm) :=
  lt1 (α := Int32) (μ.1 a0 2) fun x1 => bd (f_X1_skipSpaces K μ a0) fun μ3 => if (μ3.1 a0 2) = x1 then (some (0, μ3)) else (bd (f_X1_readNumber_l24 K a0 a1 FU μ3 0 0) fun q18 => lt1 q18.1 fun x19 => lt1 q18.2.1 fun x20 => lt1 q18.2.2 fun μ21 => bd (rf K μ21 a0 5 8) fun b22 => gd (inb a1 (K b22).2) <| lt1 (sI μ21 b22 (ix a1) x19) fun μ24 => lt1 (α := Int32) (if x20 ≤ 0 then 0 else 1) fun x25 => gd (x25 = 0 ∨ x25 = 1) <| some (x25, μ24))
set_option maxRecDepth 100000 in
set_option maxHeartbeats 4000000 in
theorem gl_X1_readNumber_24 {l : Launch} {Z : ZZ} {X : XX} (v0 : Nat) (v1 : Int32) (k0 : (zk Z v0).1 = 0) (C : Cx l Z false X cX1_readNumber RX1 5 (some .boolean)) (E : xR X = rmm 1 0 0) : ∀ (n : Nat) (μ : Mm) (v3 : Int32) (v4 : Int32) (y : Int32 × Int32 × Mm), f_X1_readNumber_l24 (zk Z) v0 v1 n μ v3 v4 = some y → G Z X 5 0 0 103 [(0, .ref (za Z v0)), (1, .int v1), (3, .int y.1), (4, .int y.2.1)] [] y.2.2 → G Z X 5 0 0 24 [(0, .ref (za Z v0)), (1, .int v1), (3, .int v3), (4, .int v4)] [] μ := by
  intro n
  induction n with
  | zero => intro μ v3 v4 y h he; unfold f_X1_readNumber_l24 at h; cases h
  | succ n ih =>
    intro μ v3 v4 y h he
    unfold f_X1_readNumber_l24 at h
    refine g_iload C (i := 4) 3 rfl (dk kX1_readNumber 15 rfl) ?_
    refine g_iconst C (v := 4) (by decide) (dk kX1_readNumber 16 rfl) ?_
    refine g_icmp_ge C (tgt := 103) (dk kX1_readNumber 17 rfl) (by decide) (fun c5 => ?_) (fun c5 => ?_)
    · replace h := ite_t h c5
      cases h
      exact g_sub [0, 1, 2, 3] rfl he
    · replace h := ite_f h c5
      refine g_aload_n C (i := 0) 0 rfl rfl (dk kX1_readNumber 18 rfl) ?_
      refine gI_0_2 C k0 (C.w wd_1_43) (dk kX1_readNumber 19 rfl) ?_
      refine g_aload_n C (i := 0) 0 rfl rfl (dk kX1_readNumber 20 rfl) ?_
      refine gI_0_1 C k0 (C.w wd_1_41) (dk kX1_readNumber 21 rfl) ?_
      refine g_icmp_ge C (tgt := 103) (dk kX1_readNumber 22 rfl) (by decide) (fun c6 => ?_) (fun c6 => ?_)
      · replace h := ite_t h c6
        cases h
        exact g_sub [0, 1, 2, 3] rfl he
      · replace h := ite_f h c6
        refine g_aload_n C (i := 0) 0 rfl rfl (dk kX1_readNumber 23 rfl) ?_
        obtain ⟨b7, eb7, h⟩ := bd_inv h
        obtain ⟨rb7, kb7⟩ := rf_inv eb7
        refine gR_0_0 C k0 (C.w wd_1_40) rb7 (dk kX1_readNumber 24 rfl) ?_
        refine g_aload_n C (i := 0) 0 rfl rfl (dk kX1_readNumber 25 rfl) ?_
        refine gI_0_2 C k0 (C.w wd_1_43) (dk kX1_readNumber 26 rfl) ?_
        obtain ⟨c8, h⟩ := gd_inv h
        refine g_cald C kb7 c8 (dk kX1_readNumber 27 rfl) ?_
        refine g_bipush C (v := 48) (by decide) (dk kX1_readNumber 28 rfl) ?_
        refine g_icmp_lt C (tgt := 103) (dk kX1_readNumber 29 rfl) (by decide) (fun c9 => ?_) (fun c9 => ?_)
        · replace h := ite_t h c9
          cases h
          exact g_sub [0, 1, 2, 3] rfl he
        · replace h := ite_f h c9
          refine g_aload_n C (i := 0) 0 rfl rfl (dk kX1_readNumber 30 rfl) ?_
          obtain ⟨b10, eb10, h⟩ := bd_inv h
          obtain ⟨rb10, kb10⟩ := rf_inv eb10
          refine gR_0_0 C k0 (C.w wd_1_40) rb10 (dk kX1_readNumber 31 rfl) ?_
          refine g_aload_n C (i := 0) 0 rfl rfl (dk kX1_readNumber 32 rfl) ?_
          refine gI_0_2 C k0 (C.w wd_1_43) (dk kX1_readNumber 33 rfl) ?_
          obtain ⟨c11, h⟩ := gd_inv h
          refine g_cald C kb10 c11 (dk kX1_readNumber 34 rfl) ?_
          refine g_bipush C (v := 57) (by decide) (dk kX1_readNumber 35 rfl) ?_
          refine g_icmp_gt C (tgt := 103) (dk kX1_readNumber 36 rfl) (by decide) (fun c12 => ?_) (fun c12 => ?_)
          · replace h := ite_t h c12
            cases h
            exact g_sub [0, 1, 2, 3] rfl he
          · replace h := ite_f h c12
            refine g_bipush C (v := 10) (by decide) (dk kX1_readNumber 37 rfl) ?_
            refine g_iload_n C (i := 3) 2 rfl rfl (dk kX1_readNumber 38 rfl) ?_
            refine g_imul C (dk kX1_readNumber 39 rfl) ?_
            refine g_aload_n C (i := 0) 0 rfl rfl (dk kX1_readNumber 40 rfl) ?_
            obtain ⟨b13, eb13, h⟩ := bd_inv h
            obtain ⟨rb13, kb13⟩ := rf_inv eb13
            refine gR_0_0 C k0 (C.w wd_1_40) rb13 (dk kX1_readNumber 41 rfl) ?_
            refine g_aload_n C (i := 0) 0 rfl rfl (dk kX1_readNumber 42 rfl) ?_
            refine gI_0_2 C k0 (C.w wd_1_43) (dk kX1_readNumber 43 rfl) ?_
            obtain ⟨c14, h⟩ := gd_inv h
            refine g_cald C kb13 c14 (dk kX1_readNumber 44 rfl) ?_
            refine g_iadd C (dk kX1_readNumber 45 rfl) ?_
            refine g_bipush C (v := 48) (by decide) (dk kX1_readNumber 46 rfl) ?_
            refine g_isub C (dk kX1_readNumber 47 rfl) ?_
            obtain ⟨x15, ex15, h⟩ := lt_inv h
            refine g_nmi ex15 ?_
            refine g_istore_n C (i := 3) (lv' := [(3, .int x15), (0, .ref (za Z v0)), (1, .int v1), (4, .int v4)]) (dk kX1_readNumber 48 rfl) rfl (by decide) rfl ?_
            obtain ⟨x16, ex16, h⟩ := lt_inv h
            refine g_iinc C (i := 4) (v := x16) (lv' := [(4, .int x16), (3, .int x15), (0, .ref (za Z v0)), (1, .int v1)]) 3 (dk kX1_readNumber 49 rfl) rfl (by rw [ex16]; rfl) (by decide) rfl ?_
            refine g_aload_n C (i := 0) 2 rfl rfl (dk kX1_readNumber 50 rfl) ?_
            refine g_dup C rfl (dk kX1_readNumber 51 rfl) ?_
            refine gI_0_2 C k0 (C.w wd_1_43) (dk kX1_readNumber 52 rfl) ?_
            refine g_iconst C (v := 1) (by decide) (dk kX1_readNumber 53 rfl) ?_
            refine g_iadd C (dk kX1_readNumber 54 rfl) ?_
            obtain ⟨μ17, eμ17, h⟩ := lt_inv h
            refine pI_0_2 C k0 (C.w wd_1_43) eμ17 (dk kX1_readNumber 55 rfl) ?_
            refine g_goto C (tgt := 24) (dk kX1_readNumber 56 rfl) (by decide) ?_
            exact g_sub [2, 3, 1, 0] rfl (ih μ17 x15 x16 y h he)
set_option maxRecDepth 100000 in
set_option maxHeartbeats 4000000 in
theorem t_X1_readNumber {l : Launch} {Z : ZZ} {X : XX} (μ : Mm) (a0 : Nat) (a1 : Int32) (r : Int32) (μ' : Mm) (k0 : (zk Z a0).1 = 0) (h : f_X1_readNumber (zk Z) μ a0 a1 = some (r, μ')) (C : Cx l Z false X cX1_readNumber RX1 5 (some .boolean)) (E : Ex Z X 1 0 0 (some (.int r)) Z μ') : G Z X 5 0 0 0 [(0, .ref (za Z a0)), (1, .int a1)] [] μ := by
  unfold f_X1_readNumber at h
  refine g_aload_n C (i := 0) 0 rfl rfl (dk kX1_readNumber 0 rfl) ?_
  refine gI_0_2 C k0 (C.w wd_1_43) (dk kX1_readNumber 1 rfl) ?_
  obtain ⟨x1, ex1, h⟩ := lt_inv h
  refine g_nmi ex1 ?_
  refine g_istore_n C (i := 2) (lv' := [(2, .int x1), (0, .ref (za Z a0)), (1, .int a1)]) (dk kX1_readNumber 2 rfl) rfl (by decide) rfl ?_
  refine g_aload_n C (i := 0) 1 rfl rfl (dk kX1_readNumber 3 rfl) ?_
  obtain ⟨μ3, eq2, h⟩ := bd_inv h
  refine g_callV C E.2 (rest := []) 0 (ct_X1_skipSpaces k0 eq2) wd_2_5 mm_X1_skipSpaces ⟨rfl, by decide, by decide, by decide⟩ rfl (by decide) k0 (by decide) rfl rfl (Nat.le_of_ble_eq_true rfl) (by decide) (dk kX1_readNumber 4 rfl) ?_
  refine g_aload_n C (i := 0) 1 rfl rfl (dk kX1_readNumber 5 rfl) ?_
  refine gI_0_2 C k0 (C.w wd_1_43) (dk kX1_readNumber 6 rfl) ?_
  refine g_iload_n C (i := 2) 0 rfl rfl (dk kX1_readNumber 7 rfl) ?_
  refine g_icmp_ne C (tgt := 19) (dk kX1_readNumber 8 rfl) (by decide) (fun c4 => ?_) (fun c4 => ?_)
  · replace h := ite_f h c4
    refine g_iconst C (v := 0) (by decide) (dk kX1_readNumber 11 rfl) ?_
    refine g_istore_n C (i := 3) (lv' := [(3, .int 0), (2, .int x1), (0, .ref (za Z a0)), (1, .int a1)]) (dk kX1_readNumber 12 rfl) rfl (by decide) rfl ?_
    refine g_iconst C (v := 0) (by decide) (dk kX1_readNumber 13 rfl) ?_
    refine g_istore C (i := 4) (lv' := [(4, .int 0), (3, .int 0), (2, .int x1), (0, .ref (za Z a0)), (1, .int a1)]) (dk kX1_readNumber 14 rfl) (by decide) rfl ?_
    obtain ⟨q18, eq18, h⟩ := bd_inv h
    refine g_sub [3, 4, 1, 0] (lv' := [(0, .ref (za Z a0)), (1, .int a1), (3, .int 0), (4, .int 0)]) rfl ?_
    refine gl_X1_readNumber_24 a0 a1 k0 C E.2 FU μ3 0 0 _ eq18 ?_
    obtain ⟨x19, ex19, h⟩ := lt_inv h
    obtain ⟨x20, ex20, h⟩ := lt_inv h
    obtain ⟨μ21, eμ21, h⟩ := lt_inv h
    rw [← ex19, ← ex20, ← eμ21]
    refine g_aload_n C (i := 0) 0 rfl rfl (dk kX1_readNumber 57 rfl) ?_
    obtain ⟨b22, eb22, h⟩ := bd_inv h
    obtain ⟨rb22, kb22⟩ := rf_inv eb22
    refine gR_0_5 C k0 (C.w wd_1_47) rb22 (dk kX1_readNumber 58 rfl) ?_
    refine g_iload_n C (i := 1) 1 rfl rfl (dk kX1_readNumber 59 rfl) ?_
    refine g_iload_n C (i := 3) 2 rfl rfl (dk kX1_readNumber 60 rfl) ?_
    obtain ⟨c23, h⟩ := gd_inv h
    obtain ⟨μ24, eμ24, h⟩ := lt_inv h
    refine g_iast C kb22 c23 eμ24 (dk kX1_readNumber 61 rfl) ?_
    refine g_iload C (i := 4) 3 rfl (dk kX1_readNumber 62 rfl) ?_
    obtain ⟨x25, ex25, h⟩ := lt_inv h
    have kj26 : G Z X 5 0 0 120 [(0, .ref (za Z a0)), (1, .int a1), (3, .int x19), (4, .int x20)] [.int x25] μ24 := by
      obtain ⟨c27, h⟩ := gd_inv h
      cases h
      exact g_iret C E rfl (br0 _ c27) (Nat.le_refl 0) (Nat.le_refl 0) (dk kX1_readNumber 67 rfl)
    clear h
    refine g_if_le C (tgt := 119) (dk kX1_readNumber 63 rfl) (by decide) (fun c28 => ?_) (fun c28 => ?_)
    · refine g_iconst C (v := 0) (by decide) (dk kX1_readNumber 66 rfl) ?_
      exact g_nmi (by rw [ex25, if_pos c28]) kj26
    · refine g_iconst C (v := 1) (by decide) (dk kX1_readNumber 64 rfl) ?_
      refine g_goto C (tgt := 120) (dk kX1_readNumber 65 rfl) (by decide) ?_
      exact g_nmi (by rw [ex25, if_neg c28]) kj26
  · replace h := ite_t h c4
    refine g_iconst C (v := 0) (by decide) (dk kX1_readNumber 9 rfl) ?_
    cases h
    exact g_iret C E rfl rfl (Nat.le_refl 0) (Nat.le_refl 0) (dk kX1_readNumber 10 rfl)
theorem ct_X1_readNumber {l : Launch} {Z : ZZ} {μ : Mm} {a0 : Nat} {a1 : Int32} {r : Int32} {μ' : Mm} (k0 : (zk Z a0).1 = 0) (h : f_X1_readNumber (zk Z) μ a0 a1 = some (r, μ')) : CtM l Z false yX1_readNumber cX1_readNumber 5 (some .boolean) 1 0 0 [.ref (za Z a0), .int a1] μ (some (.int r)) Z μ' := ct_of rfl rfl (Nat.le_of_ble_eq_true rfl) (fun X C E => t_X1_readNumber μ a0 a1 r μ' k0 h C E)

def qX1_readNumbers : List (Nat × Instr × Nat) := [(0, .iconst 0, 1), (1, .istore_n 2, 1), (2, .iload_n 2, 1), (3, .iload_n 1, 1), (4, .if_icmp .ge 24, 3), (7, .iload_n 2, 1), (8, .iconst 3, 1), (9, .if_icmp .ge 19, 3), (12, .aload_n 0, 1), (13, .iload_n 2, 1), (14, .invokevirtual 85, 3), (17, .ifCond .ne 5, 3), (20, .iconst 0, 1), (21, .ireturn, 1), (22, .iinc 2 1, 3), (25, .goto (-23), 3), (28, .iconst 1, 1), (29, .ireturn, 1)]
theorem kX1_readNumbers : ∀ q ∈ qX1_readNumbers, decode cX1_readNumbers q.1 = .ok q.2 := by decide +kernel
def f_X1_readNumbers_l2 (K : Nat → Nat × Nat) (v0 : Nat) (v1 : Int32) : Nat → Mm → Int32 → Option ((Int32 × Mm) ⊕ (Mm))
  | 0, _, _ => none
  | n + 1, μ, v2 => if v1 ≤ v2 then (some (.inr μ)) else (if 3 ≤ v2 then (some (.inr μ)) else (bd (f_X1_readNumber K μ v0 v2) fun q3 => lt1 q3.1 fun x5 => lt1 q3.2 fun μ4 => if x5 = 0 then (some (.inl (0, μ4))) else (lt1 (α := Int32) (v2 + 1) fun x7 => f_X1_readNumbers_l2 K v0 v1 n μ4 x7)))
def f_X1_readNumbers (K : Nat → Nat × Nat) (μ : Mm) (a0 : Nat) (a1 : Int32) : Option (Int32 × Mm) :=
  bd (f_X1_readNumbers_l2 K a0 a1 FU μ 0) fun q8 => (match q8 with | .inl r => some r | .inr q9 => lt1 q9 fun μ10 => some (1, μ10))
set_option maxRecDepth 100000 in
set_option maxHeartbeats 4000000 in
theorem gl_X1_readNumbers_2 {l : Launch} {Z : ZZ} {X : XX} (v0 : Nat) (v1 : Int32) (k0 : (zk Z v0).1 = 0) (C : Cx l Z false X cX1_readNumbers RX1 3 (some .boolean)) (E : xR X = rmm 2 0 0) : ∀ (n : Nat) (μ : Mm) (v2 : Int32) (y : (Int32 × Mm) ⊕ (Mm)), f_X1_readNumbers_l2 (zk Z) v0 v1 n μ v2 = some y → (∀ r, y = .inl r → Ex Z X 2 0 0 (some (.int r.1)) Z r.2) → (∀ y9, y = .inr y9 → G Z X 3 0 0 28 [] [] y9) → G Z X 3 0 0 2 [(0, .ref (za Z v0)), (1, .int v1), (2, .int v2)] [] μ := by
  intro n
  induction n with
  | zero => intro μ v2 y h hr he; unfold f_X1_readNumbers_l2 at h; cases h
  | succ n ih =>
    intro μ v2 y h hr he
    unfold f_X1_readNumbers_l2 at h
    refine g_iload_n C (i := 2) 2 rfl rfl (dk kX1_readNumbers 2 rfl) ?_
    refine g_iload_n C (i := 1) 1 rfl rfl (dk kX1_readNumbers 3 rfl) ?_
    refine g_icmp_ge C (tgt := 28) (dk kX1_readNumbers 4 rfl) (by decide) (fun c1 => ?_) (fun c1 => ?_)
    · replace h := ite_t h c1
      cases h
      exact g_sub [] rfl (he _ rfl)
    · replace h := ite_f h c1
      refine g_iload_n C (i := 2) 2 rfl rfl (dk kX1_readNumbers 5 rfl) ?_
      refine g_iconst C (v := 3) (by decide) (dk kX1_readNumbers 6 rfl) ?_
      refine g_icmp_ge C (tgt := 28) (dk kX1_readNumbers 7 rfl) (by decide) (fun c2 => ?_) (fun c2 => ?_)
      · replace h := ite_t h c2
        cases h
        exact g_sub [] rfl (he _ rfl)
      · replace h := ite_f h c2
        refine g_aload_n C (i := 0) 0 rfl rfl (dk kX1_readNumbers 8 rfl) ?_
        refine g_iload_n C (i := 2) 2 rfl rfl (dk kX1_readNumbers 9 rfl) ?_
        obtain ⟨q3, eq3, h⟩ := bd_inv h
        obtain ⟨x5, ex5, h⟩ := lt_inv h
        obtain ⟨μ4, eμ4, h⟩ := lt_inv h
        rw [show q3 = (x5, μ4) from by rw [ex5, eμ4]] at eq3
        refine g_callV C E (rest := []) 1 (ct_X1_readNumber k0 eq3) wd_2_75 mm_X1_readNumber ⟨rfl, by decide, by decide, by decide⟩ rfl (by decide) k0 (by decide) rfl rfl (Nat.le_of_ble_eq_true rfl) (by decide) (dk kX1_readNumbers 10 rfl) ?_
        refine g_if_ne C (tgt := 22) (dk kX1_readNumbers 11 rfl) (by decide) (fun c6 => ?_) (fun c6 => ?_)
        · replace h := ite_f h c6
          obtain ⟨x7, ex7, h⟩ := lt_inv h
          refine g_iinc C (i := 2) (v := x7) (lv' := [(2, .int x7), (0, .ref (za Z v0)), (1, .int v1)]) 2 (dk kX1_readNumbers 14 rfl) rfl (by rw [ex7]; rfl) (by decide) rfl ?_
          refine g_goto C (tgt := 2) (dk kX1_readNumbers 15 rfl) (by decide) ?_
          exact g_sub [1, 2, 0] rfl (ih μ4 x7 y h hr he)
        · replace h := ite_t h c6
          refine g_iconst C (v := 0) (by decide) (dk kX1_readNumbers 12 rfl) ?_
          cases h
          have E := hr _ rfl
          exact g_iret C E rfl rfl (Nat.le_refl 0) (Nat.le_refl 0) (dk kX1_readNumbers 13 rfl)
set_option maxRecDepth 100000 in
set_option maxHeartbeats 4000000 in
theorem t_X1_readNumbers {l : Launch} {Z : ZZ} {X : XX} (μ : Mm) (a0 : Nat) (a1 : Int32) (r : Int32) (μ' : Mm) (k0 : (zk Z a0).1 = 0) (h : f_X1_readNumbers (zk Z) μ a0 a1 = some (r, μ')) (C : Cx l Z false X cX1_readNumbers RX1 3 (some .boolean)) (E : Ex Z X 2 0 0 (some (.int r)) Z μ') : G Z X 3 0 0 0 [(0, .ref (za Z a0)), (1, .int a1)] [] μ := by
  unfold f_X1_readNumbers at h
  refine g_iconst C (v := 0) (by decide) (dk kX1_readNumbers 0 rfl) ?_
  refine g_istore_n C (i := 2) (lv' := [(2, .int 0), (0, .ref (za Z a0)), (1, .int a1)]) (dk kX1_readNumbers 1 rfl) rfl (by decide) rfl ?_
  obtain ⟨q8, eq8, h⟩ := bd_inv h
  refine g_sub [1, 2, 0] (lv' := [(0, .ref (za Z a0)), (1, .int a1), (2, .int 0)]) rfl ?_
  cases q8 with
  | inl r =>
    cases h
    exact gl_X1_readNumbers_2 a0 a1 k0 C E.2 FU μ 0 _ eq8 (fun r hr9 => by cases hr9; exact E) (fun y hy9 => by cases hy9)
  | inr q9 =>
    refine gl_X1_readNumbers_2 a0 a1 k0 C E.2 FU μ 0 _ eq8 (fun r hr9 => by cases hr9) (fun y hy9 => ?_)
    cases hy9
    obtain ⟨μ10, eμ10, h⟩ := lt_inv h
    rw [← eμ10]
    refine g_iconst C (v := 1) (by decide) (dk kX1_readNumbers 16 rfl) ?_
    cases h
    exact g_iret C E rfl rfl (Nat.le_refl 0) (Nat.le_refl 0) (dk kX1_readNumbers 17 rfl)
theorem ct_X1_readNumbers {l : Launch} {Z : ZZ} {μ : Mm} {a0 : Nat} {a1 : Int32} {r : Int32} {μ' : Mm} (k0 : (zk Z a0).1 = 0) (h : f_X1_readNumbers (zk Z) μ a0 a1 = some (r, μ')) : CtM l Z false yX1_readNumbers cX1_readNumbers 3 (some .boolean) 2 0 0 [.ref (za Z a0), .int a1] μ (some (.int r)) Z μ' := ct_of rfl rfl (Nat.le_of_ble_eq_true rfl) (fun X C E => t_X1_readNumbers μ a0 a1 r μ' k0 h C E)

def qX1_readSemicolon : List (Nat × Instr × Nat) := [(0, .aload_n 0, 1), (1, .invokevirtual 45, 3), (4, .aload_n 0, 1), (5, .getfield 35, 3), (8, .aload_n 0, 1), (9, .getfield 32, 3), (12, .if_icmp .ge 17, 3), (15, .aload_n 0, 1), (16, .getfield 9, 3), (19, .aload_n 0, 1), (20, .getfield 35, 3), (23, .caload, 1), (24, .bipush 59, 2), (26, .if_icmp .eq 5, 3), (29, .iconst 0, 1), (30, .ireturn, 1), (31, .aload_n 0, 1), (32, .dup, 1), (33, .getfield 35, 3), (36, .iconst 1, 1), (37, .iadd, 1), (38, .putfield 35, 3), (41, .iconst 1, 1), (42, .ireturn, 1)]
theorem kX1_readSemicolon : ∀ q ∈ qX1_readSemicolon, decode cX1_readSemicolon q.1 = .ok q.2 := by decide +kernel
def f_X1_readSemicolon (K : Nat → Nat × Nat) (μ : Mm) (a0 : Nat) : Option (Int32 × Mm) :=
  bd (f_X1_skipSpaces K μ a0) fun μ2 => if (μ2.1 a0 1) ≤ (μ2.1 a0 2) then (some (0, μ2)) else (bd (rf K μ2 a0 0 7) fun b4 => gd (inb (μ2.1 a0 2) (K b4).2) <| if (μ2.1 b4 (ix (μ2.1 a0 2))) = 59 then (lt1 (sI μ2 a0 2 ((μ2.1 a0 2) + 1)) fun μ7 => some (1, μ7)) else (some (0, μ2)))
set_option maxRecDepth 100000 in
set_option maxHeartbeats 4000000 in
theorem t_X1_readSemicolon {l : Launch} {Z : ZZ} {X : XX} (μ : Mm) (a0 : Nat) (r : Int32) (μ' : Mm) (k0 : (zk Z a0).1 = 0) (h : f_X1_readSemicolon (zk Z) μ a0 = some (r, μ')) (C : Cx l Z false X cX1_readSemicolon RX1 1 (some .boolean)) (E : Ex Z X 1 0 0 (some (.int r)) Z μ') : G Z X 1 0 0 0 [(0, .ref (za Z a0))] [] μ := by
  unfold f_X1_readSemicolon at h
  refine g_aload_n C (i := 0) 0 rfl rfl (dk kX1_readSemicolon 0 rfl) ?_
  obtain ⟨μ2, eq1, h⟩ := bd_inv h
  refine g_callV C E.2 (rest := []) 0 (ct_X1_skipSpaces k0 eq1) wd_2_5 mm_X1_skipSpaces ⟨rfl, by decide, by decide, by decide⟩ rfl (by decide) k0 (by decide) rfl rfl (Nat.le_of_ble_eq_true rfl) (by decide) (dk kX1_readSemicolon 1 rfl) ?_
  refine g_aload_n C (i := 0) 0 rfl rfl (dk kX1_readSemicolon 2 rfl) ?_
  refine gI_0_2 C k0 (C.w wd_1_43) (dk kX1_readSemicolon 3 rfl) ?_
  refine g_aload_n C (i := 0) 0 rfl rfl (dk kX1_readSemicolon 4 rfl) ?_
  refine gI_0_1 C k0 (C.w wd_1_41) (dk kX1_readSemicolon 5 rfl) ?_
  refine g_icmp_ge C (tgt := 29) (dk kX1_readSemicolon 6 rfl) (by decide) (fun c3 => ?_) (fun c3 => ?_)
  · replace h := ite_t h c3
    refine g_iconst C (v := 0) (by decide) (dk kX1_readSemicolon 14 rfl) ?_
    cases h
    exact g_iret C E rfl rfl (Nat.le_refl 0) (Nat.le_refl 0) (dk kX1_readSemicolon 15 rfl)
  · replace h := ite_f h c3
    refine g_aload_n C (i := 0) 0 rfl rfl (dk kX1_readSemicolon 7 rfl) ?_
    obtain ⟨b4, eb4, h⟩ := bd_inv h
    obtain ⟨rb4, kb4⟩ := rf_inv eb4
    refine gR_0_0 C k0 (C.w wd_1_40) rb4 (dk kX1_readSemicolon 8 rfl) ?_
    refine g_aload_n C (i := 0) 0 rfl rfl (dk kX1_readSemicolon 9 rfl) ?_
    refine gI_0_2 C k0 (C.w wd_1_43) (dk kX1_readSemicolon 10 rfl) ?_
    obtain ⟨c5, h⟩ := gd_inv h
    refine g_cald C kb4 c5 (dk kX1_readSemicolon 11 rfl) ?_
    refine g_bipush C (v := 59) (by decide) (dk kX1_readSemicolon 12 rfl) ?_
    refine g_icmp_eq C (tgt := 31) (dk kX1_readSemicolon 13 rfl) (by decide) (fun c6 => ?_) (fun c6 => ?_)
    · replace h := ite_t h c6
      refine g_aload_n C (i := 0) 0 rfl rfl (dk kX1_readSemicolon 16 rfl) ?_
      refine g_dup C rfl (dk kX1_readSemicolon 17 rfl) ?_
      refine gI_0_2 C k0 (C.w wd_1_43) (dk kX1_readSemicolon 18 rfl) ?_
      refine g_iconst C (v := 1) (by decide) (dk kX1_readSemicolon 19 rfl) ?_
      refine g_iadd C (dk kX1_readSemicolon 20 rfl) ?_
      obtain ⟨μ7, eμ7, h⟩ := lt_inv h
      refine pI_0_2 C k0 (C.w wd_1_43) eμ7 (dk kX1_readSemicolon 21 rfl) ?_
      refine g_iconst C (v := 1) (by decide) (dk kX1_readSemicolon 22 rfl) ?_
      cases h
      exact g_iret C E rfl rfl (Nat.le_refl 0) (Nat.le_refl 0) (dk kX1_readSemicolon 23 rfl)
    · replace h := ite_f h c6
      refine g_iconst C (v := 0) (by decide) (dk kX1_readSemicolon 14 rfl) ?_
      cases h
      exact g_iret C E rfl rfl (Nat.le_refl 0) (Nat.le_refl 0) (dk kX1_readSemicolon 15 rfl)
theorem ct_X1_readSemicolon {l : Launch} {Z : ZZ} {μ : Mm} {a0 : Nat} {r : Int32} {μ' : Mm} (k0 : (zk Z a0).1 = 0) (h : f_X1_readSemicolon (zk Z) μ a0 = some (r, μ')) : CtM l Z false yX1_readSemicolon cX1_readSemicolon 1 (some .boolean) 1 0 0 [.ref (za Z a0)] μ (some (.int r)) Z μ' := ct_of rfl rfl (Nat.le_of_ble_eq_true rfl) (fun X C E => t_X1_readSemicolon μ a0 r μ' k0 h C E)

def qX1_whyNotAppend : List (Nat × Instr × Nat) := [(0, .iload_n 1, 1), (1, .ifCond .lt 9, 3), (4, .iload_n 1, 1), (5, .bipush 127, 2), (7, .if_icmp .le 5, 3), (10, .iconst 2, 1), (11, .ireturn, 1), (12, .aload_n 0, 1), (13, .getfield 32, 3), (16, .sipush 150, 3), (19, .if_icmp .lt 7, 3), (22, .iconst 3, 1), (23, .goto 4, 3), (26, .iconst 0, 1), (27, .ireturn, 1)]
theorem kX1_whyNotAppend : ∀ q ∈ qX1_whyNotAppend, decode cX1_whyNotAppend q.1 = .ok q.2 := by decide +kernel
def f_X1_whyNotAppend (K : Nat → Nat × Nat) (μ : Mm) (a0 : Nat) (a1 : Int32) : Option (Int32) :=
  if a1 < 0 then (some 2) else (if a1 ≤ 127 then (lt1 (α := Int32) (if (μ.1 a0 1) < 150 then 0 else 3) fun x3 => some x3) else (some 2))
set_option maxRecDepth 100000 in
set_option maxHeartbeats 4000000 in
theorem t_X1_whyNotAppend {l : Launch} {Z : ZZ} {X : XX} (μ : Mm) (a0 : Nat) (a1 : Int32) (r : Int32) (k0 : (zk Z a0).1 = 0) (h : f_X1_whyNotAppend (zk Z) μ a0 a1 = some r) (C : Cx l Z false X cX1_whyNotAppend RX1 2 (some .int)) (E : Ex Z X 0 0 0 (some (.int r)) Z μ) : G Z X 2 0 0 0 [(0, .ref (za Z a0)), (1, .int a1)] [] μ := by
  unfold f_X1_whyNotAppend at h
  refine g_iload_n C (i := 1) 1 rfl rfl (dk kX1_whyNotAppend 0 rfl) ?_
  refine g_if_lt C (tgt := 10) (dk kX1_whyNotAppend 1 rfl) (by decide) (fun c1 => ?_) (fun c1 => ?_)
  · replace h := ite_t h c1
    refine g_iconst C (v := 2) (by decide) (dk kX1_whyNotAppend 5 rfl) ?_
    cases h
    exact g_iret C E rfl rfl (Nat.le_refl 0) (Nat.le_refl 0) (dk kX1_whyNotAppend 6 rfl)
  · replace h := ite_f h c1
    refine g_iload_n C (i := 1) 1 rfl rfl (dk kX1_whyNotAppend 2 rfl) ?_
    refine g_bipush C (v := 127) (by decide) (dk kX1_whyNotAppend 3 rfl) ?_
    refine g_icmp_le C (tgt := 12) (dk kX1_whyNotAppend 4 rfl) (by decide) (fun c2 => ?_) (fun c2 => ?_)
    · replace h := ite_t h c2
      refine g_aload_n C (i := 0) 0 rfl rfl (dk kX1_whyNotAppend 7 rfl) ?_
      refine gI_0_1 C k0 (C.w wd_1_41) (dk kX1_whyNotAppend 8 rfl) ?_
      refine g_sipush C (v := 150) (by decide) (dk kX1_whyNotAppend 9 rfl) ?_
      obtain ⟨x3, ex3, h⟩ := lt_inv h
      have kj4 : G Z X 2 0 0 27 [(0, .ref (za Z a0)), (1, .int a1)] [.int x3] μ := by
        cases h
        exact g_iret C E rfl rfl (Nat.le_refl 0) (Nat.le_refl 0) (dk kX1_whyNotAppend 14 rfl)
      clear h
      refine g_icmp_lt C (tgt := 26) (dk kX1_whyNotAppend 10 rfl) (by decide) (fun c5 => ?_) (fun c5 => ?_)
      · refine g_iconst C (v := 0) (by decide) (dk kX1_whyNotAppend 13 rfl) ?_
        exact g_nmi (by rw [ex3, if_pos c5]) kj4
      · refine g_iconst C (v := 3) (by decide) (dk kX1_whyNotAppend 11 rfl) ?_
        refine g_goto C (tgt := 27) (dk kX1_whyNotAppend 12 rfl) (by decide) ?_
        exact g_nmi (by rw [ex3, if_neg c5]) kj4
    · replace h := ite_f h c2
      refine g_iconst C (v := 2) (by decide) (dk kX1_whyNotAppend 5 rfl) ?_
      cases h
      exact g_iret C E rfl rfl (Nat.le_refl 0) (Nat.le_refl 0) (dk kX1_whyNotAppend 6 rfl)
theorem ct_X1_whyNotAppend {l : Launch} {Z : ZZ} {μ : Mm} {a0 : Nat} {a1 : Int32} {r : Int32} (k0 : (zk Z a0).1 = 0) (h : f_X1_whyNotAppend (zk Z) μ a0 a1 = some r) : CtM l Z false yX1_whyNotAppend cX1_whyNotAppend 2 (some .int) 0 0 0 [.ref (za Z a0), .int a1] μ (some (.int r)) Z μ := ct_of rfl rfl (Nat.le_of_ble_eq_true rfl) (fun X C E => t_X1_whyNotAppend μ a0 a1 r k0 h C E)

def qX2_rentNothing : List (Nat × Instr × Nat) := [(0, .aload_n 0, 1), (1, .iconst (-1), 1), (2, .putfield 9, 3), (5, .aload_n 0, 1), (6, .iconst (-1), 1), (7, .putfield 15, 3), (10, .return_, 1)]
theorem kX2_rentNothing : ∀ q ∈ qX2_rentNothing, decode cX2_rentNothing q.1 = .ok q.2 := by decide +kernel
def f_X2_rentNothing (K : Nat → Nat × Nat) (μ : Mm) (a0 : Nat) : Option (Mm) :=
  lt1 (sI μ a0 0 (-1)) fun μ1 => lt1 (sI μ1 a0 1 (-1)) fun μ2 => some (μ2)
set_option maxRecDepth 100000 in
set_option maxHeartbeats 4000000 in
theorem t_X2_rentNothing {l : Launch} {Z : ZZ} {X : XX} (μ : Mm) (a0 : Nat) (μ' : Mm) (k0 : (zk Z a0).1 = 1) (h : f_X2_rentNothing (zk Z) μ a0 = some μ') (C : Cx l Z false X cX2_rentNothing RX2 1 none) (E : Ex Z X 0 0 0 none Z μ') : G Z X 1 0 0 0 [(0, .ref (za Z a0))] [] μ := by
  unfold f_X2_rentNothing at h
  refine g_aload_n C (i := 0) 0 rfl rfl (dk kX2_rentNothing 0 rfl) ?_
  refine g_iconst C (v := (-1)) (by decide) (dk kX2_rentNothing 1 rfl) ?_
  obtain ⟨μ1, eμ1, h⟩ := lt_inv h
  refine pI_1_0 C k0 (C.w wd_1_145) eμ1 (dk kX2_rentNothing 2 rfl) ?_
  refine g_aload_n C (i := 0) 0 rfl rfl (dk kX2_rentNothing 3 rfl) ?_
  refine g_iconst C (v := (-1)) (by decide) (dk kX2_rentNothing 4 rfl) ?_
  obtain ⟨μ2, eμ2, h⟩ := lt_inv h
  refine pI_1_1 C k0 (C.w wd_1_147) eμ2 (dk kX2_rentNothing 5 rfl) ?_
  cases h
  exact g_vret C E (Nat.le_refl 0) (Nat.le_refl 0) (dk kX2_rentNothing 6 rfl)
theorem ct_X2_rentNothing {l : Launch} {Z : ZZ} {μ : Mm} {a0 : Nat} {μ' : Mm} (k0 : (zk Z a0).1 = 1) (h : f_X2_rentNothing (zk Z) μ a0 = some μ') : CtM l Z false yX2_rentNothing cX2_rentNothing 1 none 0 0 0 [.ref (za Z a0)] μ none Z μ' := ct_of rfl rfl (Nat.le_of_ble_eq_true rfl) (fun X C E => t_X2_rentNothing μ a0 μ' k0 h C E)

def qX2_rented : List (Nat × Instr × Nat) := [(0, .aload_n 0, 1), (1, .getfield 9, 3), (4, .iconst (-1), 1), (5, .if_icmp .ne 7, 3), (8, .iconst 0, 1), (9, .goto 14, 3), (12, .aload_n 0, 1), (13, .getfield 15, 3), (16, .aload_n 0, 1), (17, .getfield 9, 3), (20, .isub, 1), (21, .iconst 1, 1), (22, .iadd, 1), (23, .ireturn, 1)]
theorem kX2_rented : ∀ q ∈ qX2_rented, decode cX2_rented q.1 = .ok q.2 := by decide +kernel
def f_X2_rented (K : Nat → Nat × Nat) (μ : Mm) (a0 : Nat) : Option (Int32) :=
  if (μ.1 a0 0) = (-1) then (some 0) else (some (((μ.1 a0 1) - (μ.1 a0 0)) + 1))
set_option maxRecDepth 100000 in
set_option maxHeartbeats 4000000 in
theorem t_X2_rented {l : Launch} {Z : ZZ} {X : XX} (μ : Mm) (a0 : Nat) (r : Int32) (k0 : (zk Z a0).1 = 1) (h : f_X2_rented (zk Z) μ a0 = some r) (C : Cx l Z false X cX2_rented RX2 1 (some .int)) (E : Ex Z X 0 0 0 (some (.int r)) Z μ) : G Z X 1 0 0 0 [(0, .ref (za Z a0))] [] μ := by
  unfold f_X2_rented at h
  refine g_aload_n C (i := 0) 0 rfl rfl (dk kX2_rented 0 rfl) ?_
  refine gI_1_0 C k0 (C.w wd_1_145) (dk kX2_rented 1 rfl) ?_
  refine g_iconst C (v := (-1)) (by decide) (dk kX2_rented 2 rfl) ?_
  refine g_icmp_ne C (tgt := 12) (dk kX2_rented 3 rfl) (by decide) (fun c1 => ?_) (fun c1 => ?_)
  · replace h := ite_f h c1
    refine g_aload_n C (i := 0) 0 rfl rfl (dk kX2_rented 6 rfl) ?_
    refine gI_1_1 C k0 (C.w wd_1_147) (dk kX2_rented 7 rfl) ?_
    refine g_aload_n C (i := 0) 0 rfl rfl (dk kX2_rented 8 rfl) ?_
    refine gI_1_0 C k0 (C.w wd_1_145) (dk kX2_rented 9 rfl) ?_
    refine g_isub C (dk kX2_rented 10 rfl) ?_
    refine g_iconst C (v := 1) (by decide) (dk kX2_rented 11 rfl) ?_
    refine g_iadd C (dk kX2_rented 12 rfl) ?_
    cases h
    exact g_iret C E rfl rfl (Nat.le_refl 0) (Nat.le_refl 0) (dk kX2_rented 13 rfl)
  · replace h := ite_t h c1
    refine g_iconst C (v := 0) (by decide) (dk kX2_rented 4 rfl) ?_
    refine g_goto C (tgt := 23) (dk kX2_rented 5 rfl) (by decide) ?_
    cases h
    exact g_iret C E rfl rfl (Nat.le_refl 0) (Nat.le_refl 0) (dk kX2_rented 13 rfl)
theorem ct_X2_rented {l : Launch} {Z : ZZ} {μ : Mm} {a0 : Nat} {r : Int32} (k0 : (zk Z a0).1 = 1) (h : f_X2_rented (zk Z) μ a0 = some r) : CtM l Z false yX2_rented cX2_rented 1 (some .int) 0 0 0 [.ref (za Z a0)] μ (some (.int r)) Z μ := ct_of rfl rfl (Nat.le_of_ble_eq_true rfl) (fun X C E => t_X2_rented μ a0 r k0 h C E)

def qX2_rentsAllOf : List (Nat × Instr × Nat) := [(0, .aload_n 0, 1), (1, .getfield 9, 3), (4, .iconst (-1), 1), (5, .if_icmp .eq 23, 3), (8, .aload_n 0, 1), (9, .getfield 9, 3), (12, .iload_n 1, 1), (13, .if_icmp .gt 15, 3), (16, .iload_n 2, 1), (17, .aload_n 0, 1), (18, .getfield 15, 3), (21, .if_icmp .gt 7, 3), (24, .iconst 1, 1), (25, .goto 4, 3), (28, .iconst 0, 1), (29, .ireturn, 1)]
theorem kX2_rentsAllOf : ∀ q ∈ qX2_rentsAllOf, decode cX2_rentsAllOf q.1 = .ok q.2 := by decide +kernel
def f_X2_rentsAllOf (K : Nat → Nat × Nat) (μ : Mm) (a0 : Nat) (a1 : Int32) (a2 : Int32) : Option (Int32) :=
  if (μ.1 a0 0) = (-1) then (some 0) else (if a1 < (μ.1 a0 0) then (some 0) else (lt1 (α := Int32) (if (μ.1 a0 1) < a2 then 0 else 1) fun x3 => gd (x3 = 0 ∨ x3 = 1) <| some x3))
set_option maxRecDepth 100000 in
set_option maxHeartbeats 4000000 in
theorem t_X2_rentsAllOf {l : Launch} {Z : ZZ} {X : XX} (μ : Mm) (a0 : Nat) (a1 : Int32) (a2 : Int32) (r : Int32) (k0 : (zk Z a0).1 = 1) (h : f_X2_rentsAllOf (zk Z) μ a0 a1 a2 = some r) (C : Cx l Z false X cX2_rentsAllOf RX2 3 (some .boolean)) (E : Ex Z X 0 0 0 (some (.int r)) Z μ) : G Z X 3 0 0 0 [(0, .ref (za Z a0)), (1, .int a1), (2, .int a2)] [] μ := by
  unfold f_X2_rentsAllOf at h
  refine g_aload_n C (i := 0) 0 rfl rfl (dk kX2_rentsAllOf 0 rfl) ?_
  refine gI_1_0 C k0 (C.w wd_1_145) (dk kX2_rentsAllOf 1 rfl) ?_
  refine g_iconst C (v := (-1)) (by decide) (dk kX2_rentsAllOf 2 rfl) ?_
  refine g_icmp_eq C (tgt := 28) (dk kX2_rentsAllOf 3 rfl) (by decide) (fun c1 => ?_) (fun c1 => ?_)
  · replace h := ite_t h c1
    refine g_iconst C (v := 0) (by decide) (dk kX2_rentsAllOf 14 rfl) ?_
    cases h
    exact g_iret C E rfl rfl (Nat.le_refl 0) (Nat.le_refl 0) (dk kX2_rentsAllOf 15 rfl)
  · replace h := ite_f h c1
    refine g_aload_n C (i := 0) 0 rfl rfl (dk kX2_rentsAllOf 4 rfl) ?_
    refine gI_1_0 C k0 (C.w wd_1_145) (dk kX2_rentsAllOf 5 rfl) ?_
    refine g_iload_n C (i := 1) 1 rfl rfl (dk kX2_rentsAllOf 6 rfl) ?_
    refine g_icmp_gt C (tgt := 28) (dk kX2_rentsAllOf 7 rfl) (by decide) (fun c2 => ?_) (fun c2 => ?_)
    · replace h := ite_t h c2
      refine g_iconst C (v := 0) (by decide) (dk kX2_rentsAllOf 14 rfl) ?_
      cases h
      exact g_iret C E rfl rfl (Nat.le_refl 0) (Nat.le_refl 0) (dk kX2_rentsAllOf 15 rfl)
    · replace h := ite_f h c2
      refine g_iload_n C (i := 2) 2 rfl rfl (dk kX2_rentsAllOf 8 rfl) ?_
      refine g_aload_n C (i := 0) 0 rfl rfl (dk kX2_rentsAllOf 9 rfl) ?_
      refine gI_1_1 C k0 (C.w wd_1_147) (dk kX2_rentsAllOf 10 rfl) ?_
      obtain ⟨x3, ex3, h⟩ := lt_inv h
      have kj4 : G Z X 3 0 0 29 [(0, .ref (za Z a0)), (1, .int a1), (2, .int a2)] [.int x3] μ := by
        obtain ⟨c5, h⟩ := gd_inv h
        cases h
        exact g_iret C E rfl (br0 _ c5) (Nat.le_refl 0) (Nat.le_refl 0) (dk kX2_rentsAllOf 15 rfl)
      clear h
      refine g_icmp_gt C (tgt := 28) (dk kX2_rentsAllOf 11 rfl) (by decide) (fun c6 => ?_) (fun c6 => ?_)
      · refine g_iconst C (v := 0) (by decide) (dk kX2_rentsAllOf 14 rfl) ?_
        exact g_nmi (by rw [ex3, if_pos c6]) kj4
      · refine g_iconst C (v := 1) (by decide) (dk kX2_rentsAllOf 12 rfl) ?_
        refine g_goto C (tgt := 29) (dk kX2_rentsAllOf 13 rfl) (by decide) ?_
        exact g_nmi (by rw [ex3, if_neg c6]) kj4
theorem ct_X2_rentsAllOf {l : Launch} {Z : ZZ} {μ : Mm} {a0 : Nat} {a1 : Int32} {a2 : Int32} {r : Int32} (k0 : (zk Z a0).1 = 1) (h : f_X2_rentsAllOf (zk Z) μ a0 a1 a2 = some r) : CtM l Z false yX2_rentsAllOf cX2_rentsAllOf 3 (some .boolean) 0 0 0 [.ref (za Z a0), .int a1, .int a2] μ (some (.int r)) Z μ := ct_of rfl rfl (Nat.le_of_ble_eq_true rfl) (fun X C E => t_X2_rentsAllOf μ a0 a1 a2 r k0 h C E)

def qX2_rentsOneOf : List (Nat × Instr × Nat) := [(0, .aload_n 0, 1), (1, .getfield 9, 3), (4, .iconst (-1), 1), (5, .if_icmp .eq 23, 3), (8, .aload_n 0, 1), (9, .getfield 9, 3), (12, .iload_n 2, 1), (13, .if_icmp .gt 15, 3), (16, .iload_n 1, 1), (17, .aload_n 0, 1), (18, .getfield 15, 3), (21, .if_icmp .gt 7, 3), (24, .iconst 1, 1), (25, .goto 4, 3), (28, .iconst 0, 1), (29, .ireturn, 1)]
theorem kX2_rentsOneOf : ∀ q ∈ qX2_rentsOneOf, decode cX2_rentsOneOf q.1 = .ok q.2 := by decide +kernel
def f_X2_rentsOneOf (K : Nat → Nat × Nat) (μ : Mm) (a0 : Nat) (a1 : Int32) (a2 : Int32) : Option (Int32) :=
  if (μ.1 a0 0) = (-1) then (some 0) else (if a2 < (μ.1 a0 0) then (some 0) else (lt1 (α := Int32) (if (μ.1 a0 1) < a1 then 0 else 1) fun x3 => gd (x3 = 0 ∨ x3 = 1) <| some x3))
set_option maxRecDepth 100000 in
set_option maxHeartbeats 4000000 in
theorem t_X2_rentsOneOf {l : Launch} {Z : ZZ} {X : XX} (μ : Mm) (a0 : Nat) (a1 : Int32) (a2 : Int32) (r : Int32) (k0 : (zk Z a0).1 = 1) (h : f_X2_rentsOneOf (zk Z) μ a0 a1 a2 = some r) (C : Cx l Z false X cX2_rentsOneOf RX2 3 (some .boolean)) (E : Ex Z X 0 0 0 (some (.int r)) Z μ) : G Z X 3 0 0 0 [(0, .ref (za Z a0)), (1, .int a1), (2, .int a2)] [] μ := by
  unfold f_X2_rentsOneOf at h
  refine g_aload_n C (i := 0) 0 rfl rfl (dk kX2_rentsOneOf 0 rfl) ?_
  refine gI_1_0 C k0 (C.w wd_1_145) (dk kX2_rentsOneOf 1 rfl) ?_
  refine g_iconst C (v := (-1)) (by decide) (dk kX2_rentsOneOf 2 rfl) ?_
  refine g_icmp_eq C (tgt := 28) (dk kX2_rentsOneOf 3 rfl) (by decide) (fun c1 => ?_) (fun c1 => ?_)
  · replace h := ite_t h c1
    refine g_iconst C (v := 0) (by decide) (dk kX2_rentsOneOf 14 rfl) ?_
    cases h
    exact g_iret C E rfl rfl (Nat.le_refl 0) (Nat.le_refl 0) (dk kX2_rentsOneOf 15 rfl)
  · replace h := ite_f h c1
    refine g_aload_n C (i := 0) 0 rfl rfl (dk kX2_rentsOneOf 4 rfl) ?_
    refine gI_1_0 C k0 (C.w wd_1_145) (dk kX2_rentsOneOf 5 rfl) ?_
    refine g_iload_n C (i := 2) 2 rfl rfl (dk kX2_rentsOneOf 6 rfl) ?_
    refine g_icmp_gt C (tgt := 28) (dk kX2_rentsOneOf 7 rfl) (by decide) (fun c2 => ?_) (fun c2 => ?_)
    · replace h := ite_t h c2
      refine g_iconst C (v := 0) (by decide) (dk kX2_rentsOneOf 14 rfl) ?_
      cases h
      exact g_iret C E rfl rfl (Nat.le_refl 0) (Nat.le_refl 0) (dk kX2_rentsOneOf 15 rfl)
    · replace h := ite_f h c2
      refine g_iload_n C (i := 1) 1 rfl rfl (dk kX2_rentsOneOf 8 rfl) ?_
      refine g_aload_n C (i := 0) 0 rfl rfl (dk kX2_rentsOneOf 9 rfl) ?_
      refine gI_1_1 C k0 (C.w wd_1_147) (dk kX2_rentsOneOf 10 rfl) ?_
      obtain ⟨x3, ex3, h⟩ := lt_inv h
      have kj4 : G Z X 3 0 0 29 [(0, .ref (za Z a0)), (1, .int a1), (2, .int a2)] [.int x3] μ := by
        obtain ⟨c5, h⟩ := gd_inv h
        cases h
        exact g_iret C E rfl (br0 _ c5) (Nat.le_refl 0) (Nat.le_refl 0) (dk kX2_rentsOneOf 15 rfl)
      clear h
      refine g_icmp_gt C (tgt := 28) (dk kX2_rentsOneOf 11 rfl) (by decide) (fun c6 => ?_) (fun c6 => ?_)
      · refine g_iconst C (v := 0) (by decide) (dk kX2_rentsOneOf 14 rfl) ?_
        exact g_nmi (by rw [ex3, if_pos c6]) kj4
      · refine g_iconst C (v := 1) (by decide) (dk kX2_rentsOneOf 12 rfl) ?_
        refine g_goto C (tgt := 29) (dk kX2_rentsOneOf 13 rfl) (by decide) ?_
        exact g_nmi (by rw [ex3, if_neg c6]) kj4
theorem ct_X2_rentsOneOf {l : Launch} {Z : ZZ} {μ : Mm} {a0 : Nat} {a1 : Int32} {a2 : Int32} {r : Int32} (k0 : (zk Z a0).1 = 1) (h : f_X2_rentsOneOf (zk Z) μ a0 a1 a2 = some r) : CtM l Z false yX2_rentsOneOf cX2_rentsOneOf 3 (some .boolean) 0 0 0 [.ref (za Z a0), .int a1, .int a2] μ (some (.int r)) Z μ := ct_of rfl rfl (Nat.le_of_ble_eq_true rfl) (fun X C E => t_X2_rentsOneOf μ a0 a1 a2 r k0 h C E)

def qX2_takeOver : List (Nat × Instr × Nat) := [(0, .aload_n 0, 1), (1, .aload_n 1, 1), (2, .getfield 9, 3), (5, .putfield 9, 3), (8, .aload_n 0, 1), (9, .aload_n 1, 1), (10, .getfield 15, 3), (13, .putfield 15, 3), (16, .aload_n 0, 1), (17, .aload_n 1, 1), (18, .getfield 18, 3), (21, .putfield 18, 3), (24, .aload_n 0, 1), (25, .aload_n 1, 1), (26, .getfield 21, 3), (29, .putfield 21, 3), (32, .aload_n 0, 1), (33, .aload_n 1, 1), (34, .getfield 24, 3), (37, .putfield 24, 3), (40, .aload_n 0, 1), (41, .aload_n 1, 1), (42, .getfield 27, 3), (45, .putfield 27, 3), (48, .return_, 1)]
theorem kX2_takeOver : ∀ q ∈ qX2_takeOver, decode cX2_takeOver q.1 = .ok q.2 := by decide +kernel
def f_X2_takeOver (K : Nat → Nat × Nat) (μ : Mm) (a0 : Nat) (a1 : Nat) : Option (Mm) :=
  lt1 (sI μ a0 0 (μ.1 a1 0)) fun μ1 => lt1 (sI μ1 a0 1 (μ1.1 a1 1)) fun μ2 => lt1 (sI μ2 a0 2 (μ2.1 a1 2)) fun μ3 => lt1 (sI μ3 a0 3 (μ3.1 a1 3)) fun μ4 => lt1 (sI μ4 a0 4 (μ4.1 a1 4)) fun μ5 => lt1 (sI μ5 a0 5 (μ5.1 a1 5)) fun μ6 => some (μ6)
set_option maxRecDepth 100000 in
set_option maxHeartbeats 4000000 in
theorem t_X2_takeOver {l : Launch} {Z : ZZ} {X : XX} (μ : Mm) (a0 : Nat) (a1 : Nat) (μ' : Mm) (k0 : (zk Z a0).1 = 1) (k1 : (zk Z a1).1 = 1) (h : f_X2_takeOver (zk Z) μ a0 a1 = some μ') (C : Cx l Z false X cX2_takeOver RX2 2 none) (E : Ex Z X 0 0 0 none Z μ') : G Z X 2 0 0 0 [(0, .ref (za Z a0)), (1, .ref (za Z a1))] [] μ := by
  unfold f_X2_takeOver at h
  refine g_aload_n C (i := 0) 0 rfl rfl (dk kX2_takeOver 0 rfl) ?_
  refine g_aload_n C (i := 1) 1 rfl rfl (dk kX2_takeOver 1 rfl) ?_
  refine gI_1_0 C k1 (C.w wd_1_145) (dk kX2_takeOver 2 rfl) ?_
  obtain ⟨μ1, eμ1, h⟩ := lt_inv h
  refine pI_1_0 C k0 (C.w wd_1_145) eμ1 (dk kX2_takeOver 3 rfl) ?_
  refine g_aload_n C (i := 0) 0 rfl rfl (dk kX2_takeOver 4 rfl) ?_
  refine g_aload_n C (i := 1) 1 rfl rfl (dk kX2_takeOver 5 rfl) ?_
  refine gI_1_1 C k1 (C.w wd_1_147) (dk kX2_takeOver 6 rfl) ?_
  obtain ⟨μ2, eμ2, h⟩ := lt_inv h
  refine pI_1_1 C k0 (C.w wd_1_147) eμ2 (dk kX2_takeOver 7 rfl) ?_
  refine g_aload_n C (i := 0) 0 rfl rfl (dk kX2_takeOver 8 rfl) ?_
  refine g_aload_n C (i := 1) 1 rfl rfl (dk kX2_takeOver 9 rfl) ?_
  refine gI_1_2 C k1 (C.w wd_1_149) (dk kX2_takeOver 10 rfl) ?_
  obtain ⟨μ3, eμ3, h⟩ := lt_inv h
  refine pI_1_2 C k0 (C.w wd_1_149) eμ3 (dk kX2_takeOver 11 rfl) ?_
  refine g_aload_n C (i := 0) 0 rfl rfl (dk kX2_takeOver 12 rfl) ?_
  refine g_aload_n C (i := 1) 1 rfl rfl (dk kX2_takeOver 13 rfl) ?_
  refine gI_1_3 C k1 (C.w wd_1_151) (dk kX2_takeOver 14 rfl) ?_
  obtain ⟨μ4, eμ4, h⟩ := lt_inv h
  refine pI_1_3 C k0 (C.w wd_1_151) eμ4 (dk kX2_takeOver 15 rfl) ?_
  refine g_aload_n C (i := 0) 0 rfl rfl (dk kX2_takeOver 16 rfl) ?_
  refine g_aload_n C (i := 1) 1 rfl rfl (dk kX2_takeOver 17 rfl) ?_
  refine gI_1_4 C k1 (C.w wd_1_153) (dk kX2_takeOver 18 rfl) ?_
  obtain ⟨μ5, eμ5, h⟩ := lt_inv h
  refine pI_1_4 C k0 (C.w wd_1_153) eμ5 (dk kX2_takeOver 19 rfl) ?_
  refine g_aload_n C (i := 0) 0 rfl rfl (dk kX2_takeOver 20 rfl) ?_
  refine g_aload_n C (i := 1) 1 rfl rfl (dk kX2_takeOver 21 rfl) ?_
  refine gI_1_5 C k1 (C.w wd_1_155) (dk kX2_takeOver 22 rfl) ?_
  obtain ⟨μ6, eμ6, h⟩ := lt_inv h
  refine pI_1_5 C k0 (C.w wd_1_155) eμ6 (dk kX2_takeOver 23 rfl) ?_
  cases h
  exact g_vret C E (Nat.le_refl 0) (Nat.le_refl 0) (dk kX2_takeOver 24 rfl)
theorem ct_X2_takeOver {l : Launch} {Z : ZZ} {μ : Mm} {a0 : Nat} {a1 : Nat} {μ' : Mm} (k0 : (zk Z a0).1 = 1) (k1 : (zk Z a1).1 = 1) (h : f_X2_takeOver (zk Z) μ a0 a1 = some μ') : CtM l Z false yX2_takeOver cX2_takeOver 2 none 0 0 0 [.ref (za Z a0), .ref (za Z a1)] μ none Z μ' := ct_of rfl rfl (Nat.le_of_ble_eq_true rfl) (fun X C E => t_X2_takeOver μ a0 a1 μ' k0 k1 h C E)

def qX2_value : List (Nat × Instr × Nat) := [(0, .iload_n 1, 1), (1, .tableswitch 60 0 4 #[35, 40, 45, 50, 55], 35), (36, .aload_n 0, 1), (37, .getfield 9, 3), (40, .ireturn, 1), (41, .aload_n 0, 1), (42, .getfield 15, 3), (45, .ireturn, 1), (46, .aload_n 0, 1), (47, .getfield 18, 3), (50, .ireturn, 1), (51, .aload_n 0, 1), (52, .getfield 21, 3), (55, .ireturn, 1), (56, .aload_n 0, 1), (57, .getfield 24, 3), (60, .ireturn, 1), (61, .aload_n 0, 1), (62, .getfield 27, 3), (65, .ireturn, 1)]
theorem kX2_value : ∀ q ∈ qX2_value, decode cX2_value q.1 = .ok q.2 := by decide +kernel
def f_X2_value (K : Nat → Nat × Nat) (μ : Mm) (a0 : Nat) (a1 : Int32) : Option (Int32) :=
  if a1 = 0 then (some (μ.1 a0 0)) else (if a1 = 1 then (some (μ.1 a0 1)) else (if a1 = 2 then (some (μ.1 a0 2)) else (if a1 = 3 then (some (μ.1 a0 3)) else (if a1 = 4 then (some (μ.1 a0 4)) else (some (μ.1 a0 5))))))
set_option maxRecDepth 100000 in
set_option maxHeartbeats 4000000 in
theorem t_X2_value {l : Launch} {Z : ZZ} {X : XX} (μ : Mm) (a0 : Nat) (a1 : Int32) (r : Int32) (k0 : (zk Z a0).1 = 1) (h : f_X2_value (zk Z) μ a0 a1 = some r) (C : Cx l Z false X cX2_value RX2 2 (some .int)) (E : Ex Z X 0 0 0 (some (.int r)) Z μ) : G Z X 2 0 0 0 [(0, .ref (za Z a0)), (1, .int a1)] [] μ := by
  unfold f_X2_value at h
  refine g_iload_n C (i := 1) 1 rfl rfl (dk kX2_value 0 rfl) ?_
  by_cases c1 : a1 = 0
  · replace h := ite_t h c1
    refine g_tin C (tgt := 36) (dk kX2_value 1 rfl) (by rw [c1]; decide) (by rw [c1]; decide) (by rw [c1]; rfl) (by decide) ?_
    refine g_aload_n C (i := 0) 0 rfl rfl (dk kX2_value 2 rfl) ?_
    refine gI_1_0 C k0 (C.w wd_1_145) (dk kX2_value 3 rfl) ?_
    cases h
    exact g_iret C E rfl rfl (Nat.le_refl 0) (Nat.le_refl 0) (dk kX2_value 4 rfl)
  · replace h := ite_f h c1
    by_cases c2 : a1 = 1
    · replace h := ite_t h c2
      refine g_tin C (tgt := 41) (dk kX2_value 1 rfl) (by rw [c2]; decide) (by rw [c2]; decide) (by rw [c2]; rfl) (by decide) ?_
      refine g_aload_n C (i := 0) 0 rfl rfl (dk kX2_value 5 rfl) ?_
      refine gI_1_1 C k0 (C.w wd_1_147) (dk kX2_value 6 rfl) ?_
      cases h
      exact g_iret C E rfl rfl (Nat.le_refl 0) (Nat.le_refl 0) (dk kX2_value 7 rfl)
    · replace h := ite_f h c2
      by_cases c3 : a1 = 2
      · replace h := ite_t h c3
        refine g_tin C (tgt := 46) (dk kX2_value 1 rfl) (by rw [c3]; decide) (by rw [c3]; decide) (by rw [c3]; rfl) (by decide) ?_
        refine g_aload_n C (i := 0) 0 rfl rfl (dk kX2_value 8 rfl) ?_
        refine gI_1_2 C k0 (C.w wd_1_149) (dk kX2_value 9 rfl) ?_
        cases h
        exact g_iret C E rfl rfl (Nat.le_refl 0) (Nat.le_refl 0) (dk kX2_value 10 rfl)
      · replace h := ite_f h c3
        by_cases c4 : a1 = 3
        · replace h := ite_t h c4
          refine g_tin C (tgt := 51) (dk kX2_value 1 rfl) (by rw [c4]; decide) (by rw [c4]; decide) (by rw [c4]; rfl) (by decide) ?_
          refine g_aload_n C (i := 0) 0 rfl rfl (dk kX2_value 11 rfl) ?_
          refine gI_1_3 C k0 (C.w wd_1_151) (dk kX2_value 12 rfl) ?_
          cases h
          exact g_iret C E rfl rfl (Nat.le_refl 0) (Nat.le_refl 0) (dk kX2_value 13 rfl)
        · replace h := ite_f h c4
          by_cases c5 : a1 = 4
          · replace h := ite_t h c5
            refine g_tin C (tgt := 56) (dk kX2_value 1 rfl) (by rw [c5]; decide) (by rw [c5]; decide) (by rw [c5]; rfl) (by decide) ?_
            refine g_aload_n C (i := 0) 0 rfl rfl (dk kX2_value 14 rfl) ?_
            refine gI_1_4 C k0 (C.w wd_1_153) (dk kX2_value 15 rfl) ?_
            cases h
            exact g_iret C E rfl rfl (Nat.le_refl 0) (Nat.le_refl 0) (dk kX2_value 16 rfl)
          · replace h := ite_f h c5
            refine g_tout C (tgt := 61) (dk kX2_value 1 rfl) (by have q0 := lv_neT c1 (a := 0) (by decide); have q1 := lv_neT c2 (a := 1) (by decide); have q2 := lv_neT c3 (a := 2) (by decide); have q3 := lv_neT c4 (a := 3) (by decide); have q4 := lv_neT c5 (a := 4) (by decide); omega) (by decide) ?_
            refine g_aload_n C (i := 0) 0 rfl rfl (dk kX2_value 17 rfl) ?_
            refine gI_1_5 C k0 (C.w wd_1_155) (dk kX2_value 18 rfl) ?_
            cases h
            exact g_iret C E rfl rfl (Nat.le_refl 0) (Nat.le_refl 0) (dk kX2_value 19 rfl)
theorem ct_X2_value {l : Launch} {Z : ZZ} {μ : Mm} {a0 : Nat} {a1 : Int32} {r : Int32} (k0 : (zk Z a0).1 = 1) (h : f_X2_value (zk Z) μ a0 a1 = some r) : CtM l Z false yX2_value cX2_value 2 (some .int) 0 0 0 [.ref (za Z a0), .int a1] μ (some (.int r)) Z μ := ct_of rfl rfl (Nat.le_of_ble_eq_true rfl) (fun X C E => t_X2_value μ a0 a1 r k0 h C E)

def qX3_burn : List (Nat × Instr × Nat) := [(0, .aload_n 0, 1), (1, .getfield 15, 3), (4, .iload_n 1, 1), (5, .iaload, 1), (6, .iload_n 2, 1), (7, .if_icmp .lt 4, 3), (10, .return_, 1), (11, .iload_n 2, 1), (12, .aload_n 0, 1), (13, .getfield 15, 3), (16, .iload_n 1, 1), (17, .iaload, 1), (18, .isub, 1), (19, .bipush 9, 2), (21, .iadd, 1), (22, .bipush 10, 2), (24, .idiv, 1), (25, .istore_n 3, 1), (26, .aload_n 0, 1), (27, .getfield 22, 3), (30, .iload_n 1, 1), (31, .dup2, 1), (32, .iaload, 1), (33, .iload_n 3, 1), (34, .iadd, 1), (35, .iastore, 1), (36, .aload_n 0, 1), (37, .dup, 1), (38, .getfield 25, 3), (41, .iload_n 3, 1), (42, .iadd, 1), (43, .putfield 25, 3), (46, .aload_n 0, 1), (47, .getfield 19, 3), (50, .iload_n 1, 1), (51, .aload_n 0, 1), (52, .getfield 19, 3), (55, .iload_n 1, 1), (56, .iaload, 1), (57, .iload_n 3, 1), (58, .iadd, 1), (59, .sipush 9999, 3), (62, .if_icmp .le 9, 3), (65, .sipush 9999, 3), (68, .goto 11, 3), (71, .aload_n 0, 1), (72, .getfield 19, 3), (75, .iload_n 1, 1), (76, .iaload, 1), (77, .iload_n 3, 1), (78, .iadd, 1), (79, .iastore, 1), (80, .aload_n 0, 1), (81, .getfield 15, 3), (84, .iload_n 1, 1), (85, .iload_n 2, 1), (86, .iastore, 1), (87, .return_, 1)]
theorem kX3_burn : ∀ q ∈ qX3_burn, decode cX3_burn q.1 = .ok q.2 := by decide +kernel
def f_X3_burn (K : Nat → Nat × Nat) (μ : Mm) (a0 : Nat) (a1 : Int32) (a2 : Int32) : Option (Mm) :=
  bd (rf K μ a0 2 8) fun b1 => gd (inb a1 (K b1).2) <| if (μ.1 b1 (ix a1)) < a2 then (bd (rf K μ a0 2 8) fun b4 => gd (inb a1 (K b4).2) <| lt1 (α := Int32) (((a2 - (μ.1 b4 (ix a1))) + 9) / 10) fun x6 => bd (rf K μ a0 4 8) fun b7 => gd (inb a1 (K b7).2) <| gd (inb a1 (K b7).2) <| lt1 (sI μ b7 (ix a1) ((μ.1 b7 (ix a1)) + x6)) fun μ10 => lt1 (sI μ10 a0 1 ((μ10.1 a0 1) + x6)) fun μ11 => bd (rf K μ11 a0 3 8) fun b12 => bd (rf K μ11 a0 3 8) fun b13 => gd (inb a1 (K b13).2) <| if ((μ11.1 b13 (ix a1)) + x6) ≤ 9999 then (bd (rf K μ11 a0 3 8) fun b16 => gd (inb a1 (K b16).2) <| gd (inb a1 (K b12).2) <| lt1 (sI μ11 b12 (ix a1) ((μ11.1 b16 (ix a1)) + x6)) fun μ19 => bd (rf K μ19 a0 2 8) fun b20 => gd (inb a1 (K b20).2) <| lt1 (sI μ19 b20 (ix a1) a2) fun μ22 => some (μ22)) else (gd (inb a1 (K b12).2) <| lt1 (sI μ11 b12 (ix a1) 9999) fun μ24 => bd (rf K μ24 a0 2 8) fun b25 => gd (inb a1 (K b25).2) <| lt1 (sI μ24 b25 (ix a1) a2) fun μ27 => some (μ27))) else (some (μ))
set_option maxRecDepth 100000 in
set_option maxHeartbeats 4000000 in
theorem t_X3_burn {l : Launch} {Z : ZZ} {X : XX} (μ : Mm) (a0 : Nat) (a1 : Int32) (a2 : Int32) (μ' : Mm) (k0 : (zk Z a0).1 = 2) (h : f_X3_burn (zk Z) μ a0 a1 a2 = some μ') (C : Cx l Z false X cX3_burn RX3 4 none) (E : Ex Z X 0 0 0 none Z μ') : G Z X 4 0 0 0 [(0, .ref (za Z a0)), (1, .int a1), (2, .int a2)] [] μ := by
  unfold f_X3_burn at h
  refine g_aload_n C (i := 0) 0 rfl rfl (dk kX3_burn 0 rfl) ?_
  obtain ⟨b1, eb1, h⟩ := bd_inv h
  obtain ⟨rb1, kb1⟩ := rf_inv eb1
  refine gR_2_2 C k0 (C.w wd_1_77) rb1 (dk kX3_burn 1 rfl) ?_
  refine g_iload_n C (i := 1) 1 rfl rfl (dk kX3_burn 2 rfl) ?_
  obtain ⟨c2, h⟩ := gd_inv h
  refine g_iald C kb1 c2 (dk kX3_burn 3 rfl) ?_
  refine g_iload_n C (i := 2) 2 rfl rfl (dk kX3_burn 4 rfl) ?_
  refine g_icmp_lt C (tgt := 11) (dk kX3_burn 5 rfl) (by decide) (fun c3 => ?_) (fun c3 => ?_)
  · replace h := ite_t h c3
    refine g_iload_n C (i := 2) 2 rfl rfl (dk kX3_burn 7 rfl) ?_
    refine g_aload_n C (i := 0) 0 rfl rfl (dk kX3_burn 8 rfl) ?_
    obtain ⟨b4, eb4, h⟩ := bd_inv h
    obtain ⟨rb4, kb4⟩ := rf_inv eb4
    refine gR_2_2 C k0 (C.w wd_1_77) rb4 (dk kX3_burn 9 rfl) ?_
    refine g_iload_n C (i := 1) 1 rfl rfl (dk kX3_burn 10 rfl) ?_
    obtain ⟨c5, h⟩ := gd_inv h
    refine g_iald C kb4 c5 (dk kX3_burn 11 rfl) ?_
    refine g_isub C (dk kX3_burn 12 rfl) ?_
    refine g_bipush C (v := 9) (by decide) (dk kX3_burn 13 rfl) ?_
    refine g_iadd C (dk kX3_burn 14 rfl) ?_
    refine g_bipush C (v := 10) (by decide) (dk kX3_burn 15 rfl) ?_
    refine g_idiv C (by decide) (dk kX3_burn 16 rfl) ?_
    obtain ⟨x6, ex6, h⟩ := lt_inv h
    refine g_nmi ex6 ?_
    refine g_istore_n C (i := 3) (lv' := [(3, .int x6), (0, .ref (za Z a0)), (1, .int a1), (2, .int a2)]) (dk kX3_burn 17 rfl) rfl (by decide) rfl ?_
    refine g_aload_n C (i := 0) 1 rfl rfl (dk kX3_burn 18 rfl) ?_
    obtain ⟨b7, eb7, h⟩ := bd_inv h
    obtain ⟨rb7, kb7⟩ := rf_inv eb7
    refine gR_2_4 C k0 (C.w wd_1_81) rb7 (dk kX3_burn 19 rfl) ?_
    refine g_iload_n C (i := 1) 2 rfl rfl (dk kX3_burn 20 rfl) ?_
    refine g_dup2 C rfl rfl (dk kX3_burn 21 rfl) ?_
    obtain ⟨c8, h⟩ := gd_inv h
    refine g_iald C kb7 c8 (dk kX3_burn 22 rfl) ?_
    refine g_iload_n C (i := 3) 0 rfl rfl (dk kX3_burn 23 rfl) ?_
    refine g_iadd C (dk kX3_burn 24 rfl) ?_
    obtain ⟨c9, h⟩ := gd_inv h
    obtain ⟨μ10, eμ10, h⟩ := lt_inv h
    refine g_iast C kb7 c9 eμ10 (dk kX3_burn 25 rfl) ?_
    refine g_aload_n C (i := 0) 1 rfl rfl (dk kX3_burn 26 rfl) ?_
    refine g_dup C rfl (dk kX3_burn 27 rfl) ?_
    refine gI_2_1 C k0 (C.w wd_1_75) (dk kX3_burn 28 rfl) ?_
    refine g_iload_n C (i := 3) 0 rfl rfl (dk kX3_burn 29 rfl) ?_
    refine g_iadd C (dk kX3_burn 30 rfl) ?_
    obtain ⟨μ11, eμ11, h⟩ := lt_inv h
    refine pI_2_1 C k0 (C.w wd_1_75) eμ11 (dk kX3_burn 31 rfl) ?_
    refine g_aload_n C (i := 0) 1 rfl rfl (dk kX3_burn 32 rfl) ?_
    obtain ⟨b12, eb12, h⟩ := bd_inv h
    obtain ⟨rb12, kb12⟩ := rf_inv eb12
    refine gR_2_3 C k0 (C.w wd_1_79) rb12 (dk kX3_burn 33 rfl) ?_
    refine g_iload_n C (i := 1) 2 rfl rfl (dk kX3_burn 34 rfl) ?_
    refine g_aload_n C (i := 0) 1 rfl rfl (dk kX3_burn 35 rfl) ?_
    obtain ⟨b13, eb13, h⟩ := bd_inv h
    obtain ⟨rb13, kb13⟩ := rf_inv eb13
    refine gR_2_3 C k0 (C.w wd_1_79) rb13 (dk kX3_burn 36 rfl) ?_
    refine g_iload_n C (i := 1) 2 rfl rfl (dk kX3_burn 37 rfl) ?_
    obtain ⟨c14, h⟩ := gd_inv h
    refine g_iald C kb13 c14 (dk kX3_burn 38 rfl) ?_
    refine g_iload_n C (i := 3) 0 rfl rfl (dk kX3_burn 39 rfl) ?_
    refine g_iadd C (dk kX3_burn 40 rfl) ?_
    refine g_sipush C (v := 9999) (by decide) (dk kX3_burn 41 rfl) ?_
    refine g_icmp_le C (tgt := 71) (dk kX3_burn 42 rfl) (by decide) (fun c15 => ?_) (fun c15 => ?_)
    · replace h := ite_t h c15
      refine g_aload_n C (i := 0) 1 rfl rfl (dk kX3_burn 45 rfl) ?_
      obtain ⟨b16, eb16, h⟩ := bd_inv h
      obtain ⟨rb16, kb16⟩ := rf_inv eb16
      refine gR_2_3 C k0 (C.w wd_1_79) rb16 (dk kX3_burn 46 rfl) ?_
      refine g_iload_n C (i := 1) 2 rfl rfl (dk kX3_burn 47 rfl) ?_
      obtain ⟨c17, h⟩ := gd_inv h
      refine g_iald C kb16 c17 (dk kX3_burn 48 rfl) ?_
      refine g_iload_n C (i := 3) 0 rfl rfl (dk kX3_burn 49 rfl) ?_
      refine g_iadd C (dk kX3_burn 50 rfl) ?_
      obtain ⟨c18, h⟩ := gd_inv h
      obtain ⟨μ19, eμ19, h⟩ := lt_inv h
      refine g_iast C kb12 c18 eμ19 (dk kX3_burn 51 rfl) ?_
      refine g_aload_n C (i := 0) 1 rfl rfl (dk kX3_burn 52 rfl) ?_
      obtain ⟨b20, eb20, h⟩ := bd_inv h
      obtain ⟨rb20, kb20⟩ := rf_inv eb20
      refine gR_2_2 C k0 (C.w wd_1_77) rb20 (dk kX3_burn 53 rfl) ?_
      refine g_iload_n C (i := 1) 2 rfl rfl (dk kX3_burn 54 rfl) ?_
      refine g_iload_n C (i := 2) 3 rfl rfl (dk kX3_burn 55 rfl) ?_
      obtain ⟨c21, h⟩ := gd_inv h
      obtain ⟨μ22, eμ22, h⟩ := lt_inv h
      refine g_iast C kb20 c21 eμ22 (dk kX3_burn 56 rfl) ?_
      cases h
      exact g_vret C E (Nat.le_refl 0) (Nat.le_refl 0) (dk kX3_burn 57 rfl)
    · replace h := ite_f h c15
      refine g_sipush C (v := 9999) (by decide) (dk kX3_burn 43 rfl) ?_
      refine g_goto C (tgt := 79) (dk kX3_burn 44 rfl) (by decide) ?_
      obtain ⟨c23, h⟩ := gd_inv h
      obtain ⟨μ24, eμ24, h⟩ := lt_inv h
      refine g_iast C kb12 c23 eμ24 (dk kX3_burn 51 rfl) ?_
      refine g_aload_n C (i := 0) 1 rfl rfl (dk kX3_burn 52 rfl) ?_
      obtain ⟨b25, eb25, h⟩ := bd_inv h
      obtain ⟨rb25, kb25⟩ := rf_inv eb25
      refine gR_2_2 C k0 (C.w wd_1_77) rb25 (dk kX3_burn 53 rfl) ?_
      refine g_iload_n C (i := 1) 2 rfl rfl (dk kX3_burn 54 rfl) ?_
      refine g_iload_n C (i := 2) 3 rfl rfl (dk kX3_burn 55 rfl) ?_
      obtain ⟨c26, h⟩ := gd_inv h
      obtain ⟨μ27, eμ27, h⟩ := lt_inv h
      refine g_iast C kb25 c26 eμ27 (dk kX3_burn 56 rfl) ?_
      cases h
      exact g_vret C E (Nat.le_refl 0) (Nat.le_refl 0) (dk kX3_burn 57 rfl)
  · replace h := ite_f h c3
    cases h
    exact g_vret C E (Nat.le_refl 0) (Nat.le_refl 0) (dk kX3_burn 6 rfl)
theorem ct_X3_burn {l : Launch} {Z : ZZ} {μ : Mm} {a0 : Nat} {a1 : Int32} {a2 : Int32} {μ' : Mm} (k0 : (zk Z a0).1 = 2) (h : f_X3_burn (zk Z) μ a0 a1 a2 = some μ') : CtM l Z false yX3_burn cX3_burn 4 none 0 0 0 [.ref (za Z a0), .int a1, .int a2] μ none Z μ' := ct_of rfl rfl (Nat.le_of_ble_eq_true rfl) (fun X C E => t_X3_burn μ a0 a1 a2 μ' k0 h C E)

def qX3_fadeOf : List (Nat × Instr × Nat) := [(0, .aload_n 0, 1), (1, .getfield 19, 3), (4, .iload_n 1, 1), (5, .iaload, 1), (6, .aload_n 2, 1), (7, .iconst 2, 1), (8, .iaload, 1), (9, .isub, 1), (10, .istore_n 3, 1), (11, .aload_n 2, 1), (12, .iconst 3, 1), (13, .iaload, 1), (14, .istore 4, 2), (16, .iload_n 3, 1), (17, .iconst 1, 1), (18, .if_icmp .lt 9, 3), (21, .iload 4, 2), (23, .iconst 1, 1), (24, .if_icmp .ge 7, 3), (27, .iconst 0, 1), (28, .goto 7, 3), (31, .iload_n 3, 1), (32, .iload 4, 2), (34, .idiv, 1), (35, .ireturn, 1)]
theorem kX3_fadeOf : ∀ q ∈ qX3_fadeOf, decode cX3_fadeOf q.1 = .ok q.2 := by decide +kernel
def f_X3_fadeOf (K : Nat → Nat × Nat) (μ : Mm) (a0 : Nat) (a1 : Int32) (a2 : Nat) : Option (Int32) :=
  bd (rf K μ a0 3 8) fun b1 => gd (inb a1 (K b1).2) <| gd (inb 2 (K a2).2) <| lt1 (α := Int32) ((μ.1 b1 (ix a1)) - (μ.1 a2 (ix 2))) fun x4 => gd (inb 3 (K a2).2) <| lt1 (α := Int32) (μ.1 a2 (ix 3)) fun x6 => if x4 < 1 then (some 0) else (if 1 ≤ x6 then (gd (¬ x6 = 0) <| some (x4 / x6)) else (some 0))
set_option maxRecDepth 100000 in
set_option maxHeartbeats 4000000 in
theorem t_X3_fadeOf {l : Launch} {Z : ZZ} {X : XX} (μ : Mm) (a0 : Nat) (a1 : Int32) (a2 : Nat) (r : Int32) (k0 : (zk Z a0).1 = 2) (k2 : (zk Z a2).1 = 8) (h : f_X3_fadeOf (zk Z) μ a0 a1 a2 = some r) (C : Cx l Z false X cX3_fadeOf RX3 5 (some .int)) (E : Ex Z X 0 0 0 (some (.int r)) Z μ) : G Z X 5 0 0 0 [(0, .ref (za Z a0)), (1, .int a1), (2, .ref (za Z a2))] [] μ := by
  unfold f_X3_fadeOf at h
  refine g_aload_n C (i := 0) 0 rfl rfl (dk kX3_fadeOf 0 rfl) ?_
  obtain ⟨b1, eb1, h⟩ := bd_inv h
  obtain ⟨rb1, kb1⟩ := rf_inv eb1
  refine gR_2_3 C k0 (C.w wd_1_79) rb1 (dk kX3_fadeOf 1 rfl) ?_
  refine g_iload_n C (i := 1) 1 rfl rfl (dk kX3_fadeOf 2 rfl) ?_
  obtain ⟨c2, h⟩ := gd_inv h
  refine g_iald C kb1 c2 (dk kX3_fadeOf 3 rfl) ?_
  refine g_aload_n C (i := 2) 2 rfl rfl (dk kX3_fadeOf 4 rfl) ?_
  refine g_iconst C (v := 2) (by decide) (dk kX3_fadeOf 5 rfl) ?_
  obtain ⟨c3, h⟩ := gd_inv h
  refine g_iald C k2 c3 (dk kX3_fadeOf 6 rfl) ?_
  refine g_isub C (dk kX3_fadeOf 7 rfl) ?_
  obtain ⟨x4, ex4, h⟩ := lt_inv h
  refine g_nmi ex4 ?_
  refine g_istore_n C (i := 3) (lv' := [(3, .int x4), (0, .ref (za Z a0)), (1, .int a1), (2, .ref (za Z a2))]) (dk kX3_fadeOf 8 rfl) rfl (by decide) rfl ?_
  refine g_aload_n C (i := 2) 3 rfl rfl (dk kX3_fadeOf 9 rfl) ?_
  refine g_iconst C (v := 3) (by decide) (dk kX3_fadeOf 10 rfl) ?_
  obtain ⟨c5, h⟩ := gd_inv h
  refine g_iald C k2 c5 (dk kX3_fadeOf 11 rfl) ?_
  obtain ⟨x6, ex6, h⟩ := lt_inv h
  refine g_nmi ex6 ?_
  refine g_istore C (i := 4) (lv' := [(4, .int x6), (3, .int x4), (0, .ref (za Z a0)), (1, .int a1), (2, .ref (za Z a2))]) (dk kX3_fadeOf 12 rfl) (by decide) rfl ?_
  refine g_iload_n C (i := 3) 1 rfl rfl (dk kX3_fadeOf 13 rfl) ?_
  refine g_iconst C (v := 1) (by decide) (dk kX3_fadeOf 14 rfl) ?_
  refine g_icmp_lt C (tgt := 27) (dk kX3_fadeOf 15 rfl) (by decide) (fun c7 => ?_) (fun c7 => ?_)
  · replace h := ite_t h c7
    refine g_iconst C (v := 0) (by decide) (dk kX3_fadeOf 19 rfl) ?_
    refine g_goto C (tgt := 35) (dk kX3_fadeOf 20 rfl) (by decide) ?_
    cases h
    exact g_iret C E rfl rfl (Nat.le_refl 0) (Nat.le_refl 0) (dk kX3_fadeOf 24 rfl)
  · replace h := ite_f h c7
    refine g_iload C (i := 4) 0 rfl (dk kX3_fadeOf 16 rfl) ?_
    refine g_iconst C (v := 1) (by decide) (dk kX3_fadeOf 17 rfl) ?_
    refine g_icmp_ge C (tgt := 31) (dk kX3_fadeOf 18 rfl) (by decide) (fun c8 => ?_) (fun c8 => ?_)
    · replace h := ite_t h c8
      refine g_iload_n C (i := 3) 1 rfl rfl (dk kX3_fadeOf 21 rfl) ?_
      refine g_iload C (i := 4) 0 rfl (dk kX3_fadeOf 22 rfl) ?_
      obtain ⟨c9, h⟩ := gd_inv h
      refine g_idiv C c9 (dk kX3_fadeOf 23 rfl) ?_
      cases h
      exact g_iret C E rfl rfl (Nat.le_refl 0) (Nat.le_refl 0) (dk kX3_fadeOf 24 rfl)
    · replace h := ite_f h c8
      refine g_iconst C (v := 0) (by decide) (dk kX3_fadeOf 19 rfl) ?_
      refine g_goto C (tgt := 35) (dk kX3_fadeOf 20 rfl) (by decide) ?_
      cases h
      exact g_iret C E rfl rfl (Nat.le_refl 0) (Nat.le_refl 0) (dk kX3_fadeOf 24 rfl)
theorem ct_X3_fadeOf {l : Launch} {Z : ZZ} {μ : Mm} {a0 : Nat} {a1 : Int32} {a2 : Nat} {r : Int32} (k0 : (zk Z a0).1 = 2) (k2 : (zk Z a2).1 = 8) (h : f_X3_fadeOf (zk Z) μ a0 a1 a2 = some r) : CtM l Z false yX3_fadeOf cX3_fadeOf 5 (some .int) 0 0 0 [.ref (za Z a0), .int a1, .ref (za Z a2)] μ (some (.int r)) Z μ := ct_of rfl rfl (Nat.le_of_ble_eq_true rfl) (fun X C E => t_X3_fadeOf μ a0 a1 a2 r k0 k2 h C E)

def qX3_heatSum : List (Nat × Instr × Nat) := [(0, .iconst 0, 1), (1, .istore_n 1, 1), (2, .iconst 0, 1), (3, .istore_n 2, 1), (4, .iload_n 2, 1), (5, .aload_n 0, 1), (6, .getfield 9, 3), (9, .if_icmp .ge 18, 3), (12, .iload_n 1, 1), (13, .aload_n 0, 1), (14, .getfield 15, 3), (17, .iload_n 2, 1), (18, .iaload, 1), (19, .iadd, 1), (20, .istore_n 1, 1), (21, .iinc 2 1, 3), (24, .goto (-20), 3), (27, .iload_n 1, 1), (28, .ireturn, 1)]
theorem kX3_heatSum : ∀ q ∈ qX3_heatSum, decode cX3_heatSum q.1 = .ok q.2 := by decide +kernel
def f_X3_heatSum_l4 (K : Nat → Nat × Nat) (μ : Mm) (v0 : Nat) : Nat → Int32 → Int32 → Option (Int32)
  | 0, _, _ => none
  | n + 1, v1, v2 => if (μ.1 v0 0) ≤ v2 then (some v1) else (bd (rf K μ v0 2 8) fun b2 => gd (inb v2 (K b2).2) <| lt1 (α := Int32) (v1 + (μ.1 b2 (ix v2))) fun x4 => lt1 (α := Int32) (v2 + 1) fun x5 => f_X3_heatSum_l4 K μ v0 n x4 x5)
def f_X3_heatSum (K : Nat → Nat × Nat) (μ : Mm) (a0 : Nat) : Option (Int32) :=
  bd (f_X3_heatSum_l4 K μ a0 FU 0 0) fun q6 => lt1 q6 fun x7 => some x7
set_option maxRecDepth 100000 in
set_option maxHeartbeats 4000000 in
theorem gl_X3_heatSum_4 {l : Launch} {Z : ZZ} {X : XX} (v0 : Nat) (k0 : (zk Z v0).1 = 2) (μ : Mm) (C : Cx l Z false X cX3_heatSum RX3 3 (some .int)) (E : xR X = rmm 0 0 0) : ∀ (n : Nat) (v1 : Int32) (v2 : Int32) (y : Int32), f_X3_heatSum_l4 (zk Z) μ v0 n v1 v2 = some y → G Z X 3 0 0 27 [(1, .int y)] [] (μ) → G Z X 3 0 0 4 [(0, .ref (za Z v0)), (1, .int v1), (2, .int v2)] [] μ := by
  intro n
  induction n with
  | zero => intro v1 v2 y h he; unfold f_X3_heatSum_l4 at h; cases h
  | succ n ih =>
    intro v1 v2 y h he
    unfold f_X3_heatSum_l4 at h
    refine g_iload_n C (i := 2) 2 rfl rfl (dk kX3_heatSum 4 rfl) ?_
    refine g_aload_n C (i := 0) 0 rfl rfl (dk kX3_heatSum 5 rfl) ?_
    refine gI_2_0 C k0 (C.w wd_1_72) (dk kX3_heatSum 6 rfl) ?_
    refine g_icmp_ge C (tgt := 27) (dk kX3_heatSum 7 rfl) (by decide) (fun c1 => ?_) (fun c1 => ?_)
    · replace h := ite_t h c1
      cases h
      exact g_sub [1] rfl he
    · replace h := ite_f h c1
      refine g_iload_n C (i := 1) 1 rfl rfl (dk kX3_heatSum 8 rfl) ?_
      refine g_aload_n C (i := 0) 0 rfl rfl (dk kX3_heatSum 9 rfl) ?_
      obtain ⟨b2, eb2, h⟩ := bd_inv h
      obtain ⟨rb2, kb2⟩ := rf_inv eb2
      refine gR_2_2 C k0 (C.w wd_1_77) rb2 (dk kX3_heatSum 10 rfl) ?_
      refine g_iload_n C (i := 2) 2 rfl rfl (dk kX3_heatSum 11 rfl) ?_
      obtain ⟨c3, h⟩ := gd_inv h
      refine g_iald C kb2 c3 (dk kX3_heatSum 12 rfl) ?_
      refine g_iadd C (dk kX3_heatSum 13 rfl) ?_
      obtain ⟨x4, ex4, h⟩ := lt_inv h
      refine g_nmi ex4 ?_
      refine g_istore_n C (i := 1) (lv' := [(1, .int x4), (0, .ref (za Z v0)), (2, .int v2)]) (dk kX3_heatSum 14 rfl) rfl (by decide) rfl ?_
      obtain ⟨x5, ex5, h⟩ := lt_inv h
      refine g_iinc C (i := 2) (v := x5) (lv' := [(2, .int x5), (1, .int x4), (0, .ref (za Z v0))]) 2 (dk kX3_heatSum 15 rfl) rfl (by rw [ex5]; rfl) (by decide) rfl ?_
      refine g_goto C (tgt := 4) (dk kX3_heatSum 16 rfl) (by decide) ?_
      exact g_sub [2, 1, 0] rfl (ih x4 x5 y h he)
set_option maxRecDepth 100000 in
set_option maxHeartbeats 4000000 in
theorem t_X3_heatSum {l : Launch} {Z : ZZ} {X : XX} (μ : Mm) (a0 : Nat) (r : Int32) (k0 : (zk Z a0).1 = 2) (h : f_X3_heatSum (zk Z) μ a0 = some r) (C : Cx l Z false X cX3_heatSum RX3 3 (some .int)) (E : Ex Z X 0 0 0 (some (.int r)) Z μ) : G Z X 3 0 0 0 [(0, .ref (za Z a0))] [] μ := by
  unfold f_X3_heatSum at h
  refine g_iconst C (v := 0) (by decide) (dk kX3_heatSum 0 rfl) ?_
  refine g_istore_n C (i := 1) (lv' := [(1, .int 0), (0, .ref (za Z a0))]) (dk kX3_heatSum 1 rfl) rfl (by decide) rfl ?_
  refine g_iconst C (v := 0) (by decide) (dk kX3_heatSum 2 rfl) ?_
  refine g_istore_n C (i := 2) (lv' := [(2, .int 0), (1, .int 0), (0, .ref (za Z a0))]) (dk kX3_heatSum 3 rfl) rfl (by decide) rfl ?_
  obtain ⟨q6, eq6, h⟩ := bd_inv h
  refine g_sub [2, 1, 0] (lv' := [(0, .ref (za Z a0)), (1, .int 0), (2, .int 0)]) rfl ?_
  refine gl_X3_heatSum_4 a0 k0 μ C E.2 FU 0 0 _ eq6 ?_
  obtain ⟨x7, ex7, h⟩ := lt_inv h
  rw [← ex7]
  refine g_iload_n C (i := 1) 0 rfl rfl (dk kX3_heatSum 17 rfl) ?_
  cases h
  exact g_iret C E rfl rfl (Nat.le_refl 0) (Nat.le_refl 0) (dk kX3_heatSum 18 rfl)
theorem ct_X3_heatSum {l : Launch} {Z : ZZ} {μ : Mm} {a0 : Nat} {r : Int32} (k0 : (zk Z a0).1 = 2) (h : f_X3_heatSum (zk Z) μ a0 = some r) : CtM l Z false yX3_heatSum cX3_heatSum 3 (some .int) 0 0 0 [.ref (za Z a0)] μ (some (.int r)) Z μ := ct_of rfl rfl (Nat.le_of_ble_eq_true rfl) (fun X C E => t_X3_heatSum μ a0 r k0 h C E)

def qX3_lose : List (Nat × Instr × Nat) := [(0, .iconst 0, 1), (1, .istore_n 2, 1), (2, .iload_n 2, 1), (3, .aload_n 0, 1), (4, .getfield 9, 3), (7, .if_icmp .ge 37, 3), (10, .aload_n 0, 1), (11, .getfield 15, 3), (14, .iload_n 2, 1), (15, .aload_n 0, 1), (16, .getfield 15, 3), (19, .iload_n 2, 1), (20, .iaload, 1), (21, .iload_n 1, 1), (22, .if_icmp .le 14, 3), (25, .aload_n 0, 1), (26, .getfield 15, 3), (29, .iload_n 2, 1), (30, .iaload, 1), (31, .iload_n 1, 1), (32, .isub, 1), (33, .goto 4, 3), (36, .iconst 0, 1), (37, .iastore, 1), (38, .iinc 2 1, 3), (41, .goto (-39), 3), (44, .return_, 1)]
theorem kX3_lose : ∀ q ∈ qX3_lose, decode cX3_lose q.1 = .ok q.2 := by decide +kernel
def f_X3_lose_l2 (K : Nat → Nat × Nat) (v0 : Nat) (v1 : Int32) : Nat → Mm → Int32 → Option (Mm)
  | 0, _, _ => none
  | n + 1, μ, v2 => if (μ.1 v0 0) ≤ v2 then (some μ) else (bd (rf K μ v0 2 8) fun b2 => bd (rf K μ v0 2 8) fun b3 => gd (inb v2 (K b3).2) <| if (μ.1 b3 (ix v2)) ≤ v1 then (gd (inb v2 (K b2).2) <| lt1 (sI μ b2 (ix v2) 0) fun μ7 => lt1 (α := Int32) (v2 + 1) fun x8 => f_X3_lose_l2 K v0 v1 n μ7 x8) else (bd (rf K μ v0 2 8) fun b9 => gd (inb v2 (K b9).2) <| gd (inb v2 (K b2).2) <| lt1 (sI μ b2 (ix v2) ((μ.1 b9 (ix v2)) - v1)) fun μ12 => lt1 (α := Int32) (v2 + 1) fun x13 => f_X3_lose_l2 K v0 v1 n μ12 x13))
def f_X3_lose (K : Nat → Nat × Nat) (μ : Mm) (a0 : Nat) (a1 : Int32) : Option (Mm) :=
  bd (f_X3_lose_l2 K a0 a1 FU μ 0) fun q14 => lt1 q14 fun μ15 => some (μ15)
set_option maxRecDepth 100000 in
set_option maxHeartbeats 4000000 in
theorem gl_X3_lose_2 {l : Launch} {Z : ZZ} {X : XX} (v0 : Nat) (v1 : Int32) (k0 : (zk Z v0).1 = 2) (C : Cx l Z false X cX3_lose RX3 3 none) (E : xR X = rmm 0 0 0) : ∀ (n : Nat) (μ : Mm) (v2 : Int32) (y : Mm), f_X3_lose_l2 (zk Z) v0 v1 n μ v2 = some y → G Z X 3 0 0 44 [] [] y → G Z X 3 0 0 2 [(0, .ref (za Z v0)), (1, .int v1), (2, .int v2)] [] μ := by
  intro n
  induction n with
  | zero => intro μ v2 y h he; unfold f_X3_lose_l2 at h; cases h
  | succ n ih =>
    intro μ v2 y h he
    unfold f_X3_lose_l2 at h
    refine g_iload_n C (i := 2) 2 rfl rfl (dk kX3_lose 2 rfl) ?_
    refine g_aload_n C (i := 0) 0 rfl rfl (dk kX3_lose 3 rfl) ?_
    refine gI_2_0 C k0 (C.w wd_1_72) (dk kX3_lose 4 rfl) ?_
    refine g_icmp_ge C (tgt := 44) (dk kX3_lose 5 rfl) (by decide) (fun c1 => ?_) (fun c1 => ?_)
    · replace h := ite_t h c1
      cases h
      exact g_sub [] rfl he
    · replace h := ite_f h c1
      refine g_aload_n C (i := 0) 0 rfl rfl (dk kX3_lose 6 rfl) ?_
      obtain ⟨b2, eb2, h⟩ := bd_inv h
      obtain ⟨rb2, kb2⟩ := rf_inv eb2
      refine gR_2_2 C k0 (C.w wd_1_77) rb2 (dk kX3_lose 7 rfl) ?_
      refine g_iload_n C (i := 2) 2 rfl rfl (dk kX3_lose 8 rfl) ?_
      refine g_aload_n C (i := 0) 0 rfl rfl (dk kX3_lose 9 rfl) ?_
      obtain ⟨b3, eb3, h⟩ := bd_inv h
      obtain ⟨rb3, kb3⟩ := rf_inv eb3
      refine gR_2_2 C k0 (C.w wd_1_77) rb3 (dk kX3_lose 10 rfl) ?_
      refine g_iload_n C (i := 2) 2 rfl rfl (dk kX3_lose 11 rfl) ?_
      obtain ⟨c4, h⟩ := gd_inv h
      refine g_iald C kb3 c4 (dk kX3_lose 12 rfl) ?_
      refine g_iload_n C (i := 1) 1 rfl rfl (dk kX3_lose 13 rfl) ?_
      refine g_icmp_le C (tgt := 36) (dk kX3_lose 14 rfl) (by decide) (fun c5 => ?_) (fun c5 => ?_)
      · replace h := ite_t h c5
        refine g_iconst C (v := 0) (by decide) (dk kX3_lose 22 rfl) ?_
        obtain ⟨c6, h⟩ := gd_inv h
        obtain ⟨μ7, eμ7, h⟩ := lt_inv h
        refine g_iast C kb2 c6 eμ7 (dk kX3_lose 23 rfl) ?_
        obtain ⟨x8, ex8, h⟩ := lt_inv h
        refine g_iinc C (i := 2) (v := x8) (lv' := [(2, .int x8), (0, .ref (za Z v0)), (1, .int v1)]) 2 (dk kX3_lose 24 rfl) rfl (by rw [ex8]; rfl) (by decide) rfl ?_
        refine g_goto C (tgt := 2) (dk kX3_lose 25 rfl) (by decide) ?_
        exact g_sub [1, 2, 0] rfl (ih μ7 x8 y h he)
      · replace h := ite_f h c5
        refine g_aload_n C (i := 0) 0 rfl rfl (dk kX3_lose 15 rfl) ?_
        obtain ⟨b9, eb9, h⟩ := bd_inv h
        obtain ⟨rb9, kb9⟩ := rf_inv eb9
        refine gR_2_2 C k0 (C.w wd_1_77) rb9 (dk kX3_lose 16 rfl) ?_
        refine g_iload_n C (i := 2) 2 rfl rfl (dk kX3_lose 17 rfl) ?_
        obtain ⟨c10, h⟩ := gd_inv h
        refine g_iald C kb9 c10 (dk kX3_lose 18 rfl) ?_
        refine g_iload_n C (i := 1) 1 rfl rfl (dk kX3_lose 19 rfl) ?_
        refine g_isub C (dk kX3_lose 20 rfl) ?_
        refine g_goto C (tgt := 37) (dk kX3_lose 21 rfl) (by decide) ?_
        obtain ⟨c11, h⟩ := gd_inv h
        obtain ⟨μ12, eμ12, h⟩ := lt_inv h
        refine g_iast C kb2 c11 eμ12 (dk kX3_lose 23 rfl) ?_
        obtain ⟨x13, ex13, h⟩ := lt_inv h
        refine g_iinc C (i := 2) (v := x13) (lv' := [(2, .int x13), (0, .ref (za Z v0)), (1, .int v1)]) 2 (dk kX3_lose 24 rfl) rfl (by rw [ex13]; rfl) (by decide) rfl ?_
        refine g_goto C (tgt := 2) (dk kX3_lose 25 rfl) (by decide) ?_
        exact g_sub [1, 2, 0] rfl (ih μ12 x13 y h he)
set_option maxRecDepth 100000 in
set_option maxHeartbeats 4000000 in
theorem t_X3_lose {l : Launch} {Z : ZZ} {X : XX} (μ : Mm) (a0 : Nat) (a1 : Int32) (μ' : Mm) (k0 : (zk Z a0).1 = 2) (h : f_X3_lose (zk Z) μ a0 a1 = some μ') (C : Cx l Z false X cX3_lose RX3 3 none) (E : Ex Z X 0 0 0 none Z μ') : G Z X 3 0 0 0 [(0, .ref (za Z a0)), (1, .int a1)] [] μ := by
  unfold f_X3_lose at h
  refine g_iconst C (v := 0) (by decide) (dk kX3_lose 0 rfl) ?_
  refine g_istore_n C (i := 2) (lv' := [(2, .int 0), (0, .ref (za Z a0)), (1, .int a1)]) (dk kX3_lose 1 rfl) rfl (by decide) rfl ?_
  obtain ⟨q14, eq14, h⟩ := bd_inv h
  refine g_sub [1, 2, 0] (lv' := [(0, .ref (za Z a0)), (1, .int a1), (2, .int 0)]) rfl ?_
  refine gl_X3_lose_2 a0 a1 k0 C E.2 FU μ 0 _ eq14 ?_
  obtain ⟨μ15, eμ15, h⟩ := lt_inv h
  rw [← eμ15]
  cases h
  exact g_vret C E (Nat.le_refl 0) (Nat.le_refl 0) (dk kX3_lose 26 rfl)
theorem ct_X3_lose {l : Launch} {Z : ZZ} {μ : Mm} {a0 : Nat} {a1 : Int32} {μ' : Mm} (k0 : (zk Z a0).1 = 2) (h : f_X3_lose (zk Z) μ a0 a1 = some μ') : CtM l Z false yX3_lose cX3_lose 3 none 0 0 0 [.ref (za Z a0), .int a1] μ none Z μ' := ct_of rfl rfl (Nat.le_of_ble_eq_true rfl) (fun X C E => t_X3_lose μ a0 a1 μ' k0 h C E)

def qX3_mostWornDot : List (Nat × Instr × Nat) := [(0, .iconst 0, 1), (1, .istore_n 1, 1), (2, .iconst 1, 1), (3, .istore_n 2, 1), (4, .iload_n 2, 1), (5, .aload_n 0, 1), (6, .getfield 9, 3), (9, .if_icmp .ge 26, 3), (12, .aload_n 0, 1), (13, .getfield 19, 3), (16, .iload_n 2, 1), (17, .iaload, 1), (18, .aload_n 0, 1), (19, .getfield 19, 3), (22, .iload_n 1, 1), (23, .iaload, 1), (24, .if_icmp .le 5, 3), (27, .iload_n 2, 1), (28, .istore_n 1, 1), (29, .iinc 2 1, 3), (32, .goto (-28), 3), (35, .iload_n 1, 1), (36, .ireturn, 1)]
theorem kX3_mostWornDot : ∀ q ∈ qX3_mostWornDot, decode cX3_mostWornDot q.1 = .ok q.2 := by decide +kernel
def f_X3_mostWornDot_l4 (K : Nat → Nat × Nat) (μ : Mm) (v0 : Nat) : Nat → Int32 → Int32 → Option (Int32)
  | 0, _, _ => none
  | n + 1, v1, v2 => if (μ.1 v0 0) ≤ v2 then (some v1) else (bd (rf K μ v0 3 8) fun b2 => gd (inb v2 (K b2).2) <| bd (rf K μ v0 3 8) fun b4 => gd (inb v1 (K b4).2) <| if (μ.1 b2 (ix v2)) ≤ (μ.1 b4 (ix v1)) then (lt1 (α := Int32) (v2 + 1) fun x7 => f_X3_mostWornDot_l4 K μ v0 n v1 x7) else (lt1 (α := Int32) (v2 + 1) fun x8 => f_X3_mostWornDot_l4 K μ v0 n v2 x8))
def f_X3_mostWornDot (K : Nat → Nat × Nat) (μ : Mm) (a0 : Nat) : Option (Int32) :=
  bd (f_X3_mostWornDot_l4 K μ a0 FU 0 1) fun q9 => lt1 q9 fun x10 => some x10
set_option maxRecDepth 100000 in
set_option maxHeartbeats 4000000 in
theorem gl_X3_mostWornDot_4 {l : Launch} {Z : ZZ} {X : XX} (v0 : Nat) (k0 : (zk Z v0).1 = 2) (μ : Mm) (C : Cx l Z false X cX3_mostWornDot RX3 3 (some .int)) (E : xR X = rmm 0 0 0) : ∀ (n : Nat) (v1 : Int32) (v2 : Int32) (y : Int32), f_X3_mostWornDot_l4 (zk Z) μ v0 n v1 v2 = some y → G Z X 3 0 0 35 [(1, .int y)] [] (μ) → G Z X 3 0 0 4 [(0, .ref (za Z v0)), (1, .int v1), (2, .int v2)] [] μ := by
  intro n
  induction n with
  | zero => intro v1 v2 y h he; unfold f_X3_mostWornDot_l4 at h; cases h
  | succ n ih =>
    intro v1 v2 y h he
    unfold f_X3_mostWornDot_l4 at h
    refine g_iload_n C (i := 2) 2 rfl rfl (dk kX3_mostWornDot 4 rfl) ?_
    refine g_aload_n C (i := 0) 0 rfl rfl (dk kX3_mostWornDot 5 rfl) ?_
    refine gI_2_0 C k0 (C.w wd_1_72) (dk kX3_mostWornDot 6 rfl) ?_
    refine g_icmp_ge C (tgt := 35) (dk kX3_mostWornDot 7 rfl) (by decide) (fun c1 => ?_) (fun c1 => ?_)
    · replace h := ite_t h c1
      cases h
      exact g_sub [1] rfl he
    · replace h := ite_f h c1
      refine g_aload_n C (i := 0) 0 rfl rfl (dk kX3_mostWornDot 8 rfl) ?_
      obtain ⟨b2, eb2, h⟩ := bd_inv h
      obtain ⟨rb2, kb2⟩ := rf_inv eb2
      refine gR_2_3 C k0 (C.w wd_1_79) rb2 (dk kX3_mostWornDot 9 rfl) ?_
      refine g_iload_n C (i := 2) 2 rfl rfl (dk kX3_mostWornDot 10 rfl) ?_
      obtain ⟨c3, h⟩ := gd_inv h
      refine g_iald C kb2 c3 (dk kX3_mostWornDot 11 rfl) ?_
      refine g_aload_n C (i := 0) 0 rfl rfl (dk kX3_mostWornDot 12 rfl) ?_
      obtain ⟨b4, eb4, h⟩ := bd_inv h
      obtain ⟨rb4, kb4⟩ := rf_inv eb4
      refine gR_2_3 C k0 (C.w wd_1_79) rb4 (dk kX3_mostWornDot 13 rfl) ?_
      refine g_iload_n C (i := 1) 1 rfl rfl (dk kX3_mostWornDot 14 rfl) ?_
      obtain ⟨c5, h⟩ := gd_inv h
      refine g_iald C kb4 c5 (dk kX3_mostWornDot 15 rfl) ?_
      refine g_icmp_le C (tgt := 29) (dk kX3_mostWornDot 16 rfl) (by decide) (fun c6 => ?_) (fun c6 => ?_)
      · replace h := ite_t h c6
        obtain ⟨x7, ex7, h⟩ := lt_inv h
        refine g_iinc C (i := 2) (v := x7) (lv' := [(2, .int x7), (0, .ref (za Z v0)), (1, .int v1)]) 2 (dk kX3_mostWornDot 19 rfl) rfl (by rw [ex7]; rfl) (by decide) rfl ?_
        refine g_goto C (tgt := 4) (dk kX3_mostWornDot 20 rfl) (by decide) ?_
        exact g_sub [1, 2, 0] rfl (ih v1 x7 y h he)
      · replace h := ite_f h c6
        refine g_iload_n C (i := 2) 2 rfl rfl (dk kX3_mostWornDot 17 rfl) ?_
        refine g_istore_n C (i := 1) (lv' := [(1, .int v2), (0, .ref (za Z v0)), (2, .int v2)]) (dk kX3_mostWornDot 18 rfl) rfl (by decide) rfl ?_
        obtain ⟨x8, ex8, h⟩ := lt_inv h
        refine g_iinc C (i := 2) (v := x8) (lv' := [(2, .int x8), (1, .int v2), (0, .ref (za Z v0))]) 2 (dk kX3_mostWornDot 19 rfl) rfl (by rw [ex8]; rfl) (by decide) rfl ?_
        refine g_goto C (tgt := 4) (dk kX3_mostWornDot 20 rfl) (by decide) ?_
        exact g_sub [2, 1, 0] rfl (ih v2 x8 y h he)
set_option maxRecDepth 100000 in
set_option maxHeartbeats 4000000 in
theorem t_X3_mostWornDot {l : Launch} {Z : ZZ} {X : XX} (μ : Mm) (a0 : Nat) (r : Int32) (k0 : (zk Z a0).1 = 2) (h : f_X3_mostWornDot (zk Z) μ a0 = some r) (C : Cx l Z false X cX3_mostWornDot RX3 3 (some .int)) (E : Ex Z X 0 0 0 (some (.int r)) Z μ) : G Z X 3 0 0 0 [(0, .ref (za Z a0))] [] μ := by
  unfold f_X3_mostWornDot at h
  refine g_iconst C (v := 0) (by decide) (dk kX3_mostWornDot 0 rfl) ?_
  refine g_istore_n C (i := 1) (lv' := [(1, .int 0), (0, .ref (za Z a0))]) (dk kX3_mostWornDot 1 rfl) rfl (by decide) rfl ?_
  refine g_iconst C (v := 1) (by decide) (dk kX3_mostWornDot 2 rfl) ?_
  refine g_istore_n C (i := 2) (lv' := [(2, .int 1), (1, .int 0), (0, .ref (za Z a0))]) (dk kX3_mostWornDot 3 rfl) rfl (by decide) rfl ?_
  obtain ⟨q9, eq9, h⟩ := bd_inv h
  refine g_sub [2, 1, 0] (lv' := [(0, .ref (za Z a0)), (1, .int 0), (2, .int 1)]) rfl ?_
  refine gl_X3_mostWornDot_4 a0 k0 μ C E.2 FU 0 1 _ eq9 ?_
  obtain ⟨x10, ex10, h⟩ := lt_inv h
  rw [← ex10]
  refine g_iload_n C (i := 1) 0 rfl rfl (dk kX3_mostWornDot 21 rfl) ?_
  cases h
  exact g_iret C E rfl rfl (Nat.le_refl 0) (Nat.le_refl 0) (dk kX3_mostWornDot 22 rfl)
theorem ct_X3_mostWornDot {l : Launch} {Z : ZZ} {μ : Mm} {a0 : Nat} {r : Int32} (k0 : (zk Z a0).1 = 2) (h : f_X3_mostWornDot (zk Z) μ a0 = some r) : CtM l Z false yX3_mostWornDot cX3_mostWornDot 3 (some .int) 0 0 0 [.ref (za Z a0)] μ (some (.int r)) Z μ := ct_of rfl rfl (Nat.le_of_ble_eq_true rfl) (fun X C E => t_X3_mostWornDot μ a0 r k0 h C E)

def qX3_printRows : List (Nat × Instr × Nat) := [(0, .iconst 0, 1), (1, .istore 4, 2), (3, .iconst 0, 1), (4, .istore 5, 2), (6, .iload 5, 2), (8, .bipush 6, 2), (10, .if_icmp .ge 118, 3), (13, .iconst 0, 1), (14, .istore 6, 2), (16, .iload 6, 2), (18, .aload_n 1, 1), (19, .getfield 38, 3), (22, .if_icmp .ge 93, 3), (25, .iload_n 2, 1), (26, .iload 6, 2), (28, .iadd, 1), (29, .istore 7, 2), (31, .aload_n 1, 1), (32, .getfield 43, 3), (35, .iload 5, 2), (37, .iaload, 1), (38, .iload 6, 2), (40, .ishr, 1), (41, .iconst 1, 1), (42, .iand, 1), (43, .iconst 1, 1), (44, .if_icmp .ne 7, 3), (47, .iconst 1, 1), (48, .goto 4, 3), (51, .iconst 0, 1), (52, .istore 8, 2), (54, .iload 8, 2), (56, .ifCond .eq 19, 3), (59, .aload_n 0, 1), (60, .iload 7, 2), (62, .aload_n 3, 1), (63, .invokevirtual 46, 3), (66, .aload_n 3, 1), (67, .iconst 4, 1), (68, .iaload, 1), (69, .if_icmp .le 22, 3), (72, .goto 16, 3), (75, .aload_n 0, 1), (76, .getfield 15, 3), (79, .iload 7, 2), (81, .iaload, 1), (82, .aload_n 3, 1), (83, .iconst 1, 1), (84, .iaload, 1), (85, .if_icmp .le 6, 3), (88, .iinc 4 1, 3), (91, .iload 8, 2), (93, .ifCond .eq 16, 3), (96, .aload_n 0, 1), (97, .iload 7, 2), (99, .bipush 10, 2), (101, .aload_n 1, 1), (102, .getfield 50, 3), (105, .imul, 1), (106, .invokevirtual 53, 3), (109, .iinc 6 1, 3), (112, .goto (-96), 3), (115, .aload_n 0, 1), (116, .aload_n 3, 1), (117, .iconst 0, 1), (118, .iaload, 1), (119, .invokevirtual 57, 3), (122, .iinc 5 1, 3), (125, .goto (-119), 3), (128, .iload 4, 2), (130, .ireturn, 1)]
theorem kX3_printRows : ∀ q ∈ qX3_printRows, decode cX3_printRows q.1 = .ok q.2 := by decide +kernel
def f_X3_printRows_l16 (K : Nat → Nat × Nat) (v0 : Nat) (v1 : Nat) (v2 : Int32) (v3 : Nat) (v5 : Int32) : Nat → Mm → Int32 → Int32 → Option (Int32 × Mm)
  | 0, _, _, _ => none
  | n + 1, μ, v4, v6 => if (μ.1 v1 0) ≤ v6 then (some (v4, μ)) else (lt1 (α := Int32) (v2 + v6) fun x3 => bd (rf K μ v1 4 8) fun b4 => gd (inb v5 (K b4).2) <| lt1 (α := Int32) (if (((μ.1 b4 (ix v5)) >>> (v6 &&& 31)) &&& 1) = 1 then 1 else 0) fun x6 => if x6 = 0 then (bd (rf K μ v0 2 8) fun b9 => gd (inb x3 (K b9).2) <| gd (inb 1 (K v3).2) <| if (μ.1 b9 (ix x3)) ≤ (μ.1 v3 (ix 1)) then (lt1 (α := Int32) (v6 + 1) fun x14 => f_X3_printRows_l16 K v0 v1 v2 v3 v5 n μ v4 x14) else (lt1 (α := Int32) (v4 + 1) fun x15 => lt1 (α := Int32) (v6 + 1) fun x17 => f_X3_printRows_l16 K v0 v1 v2 v3 v5 n μ x15 x17)) else (bd (f_X3_fadeOf K μ v0 x3 v3) fun x19 => gd (inb 4 (K v3).2) <| if x19 ≤ (μ.1 v3 (ix 4)) then (bd (f_X3_burn K μ v0 x3 (10 * (μ.1 v1 1))) fun μ24 => lt1 (α := Int32) (v6 + 1) fun x25 => f_X3_printRows_l16 K v0 v1 v2 v3 v5 n μ24 v4 x25) else (lt1 (α := Int32) (v4 + 1) fun x26 => bd (f_X3_burn K μ v0 x3 (10 * (μ.1 v1 1))) fun μ29 => lt1 (α := Int32) (v6 + 1) fun x30 => f_X3_printRows_l16 K v0 v1 v2 v3 v5 n μ29 x26 x30)))
def f_X3_printRows_l6 (K : Nat → Nat × Nat) (v0 : Nat) (v1 : Nat) (v2 : Int32) (v3 : Nat) : Nat → Mm → Int32 → Int32 → Option (Int32 × Mm)
  | 0, _, _, _ => none
  | n + 1, μ, v4, v5 => if 6 ≤ v5 then (some (v4, μ)) else (bd (f_X3_printRows_l16 K v0 v1 v2 v3 v5 FU μ v4 0) fun q32 => lt1 q32.1 fun x33 => lt1 q32.2 fun μ34 => gd (inb 0 (K v3).2) <| bd (f_X3_lose K μ34 v0 (μ34.1 v3 (ix 0))) fun μ37 => lt1 (α := Int32) (v5 + 1) fun x38 => f_X3_printRows_l6 K v0 v1 v2 v3 n μ37 x33 x38)
def f_X3_printRows (K : Nat → Nat × Nat) (μ : Mm) (a0 : Nat) (a1 : Nat) (a2 : Int32) (a3 : Nat) : Option (Int32 × Mm) :=
  bd (f_X3_printRows_l6 K a0 a1 a2 a3 FU μ 0 0) fun q39 => lt1 q39.1 fun x40 => lt1 q39.2 fun μ41 => some (x40, μ41)
set_option maxRecDepth 100000 in
set_option maxHeartbeats 4000000 in
theorem gl_X3_printRows_16 {l : Launch} {Z : ZZ} {X : XX} (v0 : Nat) (v1 : Nat) (v2 : Int32) (v3 : Nat) (v5 : Int32) (k0 : (zk Z v0).1 = 2) (k1 : (zk Z v1).1 = 3) (k3 : (zk Z v3).1 = 8) (C : Cx l Z false X cX3_printRows RX3 9 (some .int)) (E : xR X = rmm 1 0 0) : ∀ (n : Nat) (μ : Mm) (v4 : Int32) (v6 : Int32) (y : Int32 × Mm), f_X3_printRows_l16 (zk Z) v0 v1 v2 v3 v5 n μ v4 v6 = some y → G Z X 9 0 0 115 [(0, .ref (za Z v0)), (1, .ref (za Z v1)), (2, .int v2), (3, .ref (za Z v3)), (4, .int y.1), (5, .int v5)] [] y.2 → G Z X 9 0 0 16 [(0, .ref (za Z v0)), (1, .ref (za Z v1)), (2, .int v2), (3, .ref (za Z v3)), (4, .int v4), (5, .int v5), (6, .int v6)] [] μ := by
  intro n
  induction n with
  | zero => intro μ v4 v6 y h he; unfold f_X3_printRows_l16 at h; cases h
  | succ n ih =>
    intro μ v4 v6 y h he
    unfold f_X3_printRows_l16 at h
    refine g_iload C (i := 6) 6 rfl (dk kX3_printRows 9 rfl) ?_
    refine g_aload_n C (i := 1) 1 rfl rfl (dk kX3_printRows 10 rfl) ?_
    refine gIN_3_0 C k1 (nf_11 C) (dk kX3_printRows 11 rfl) ?_
    refine g_icmp_ge C (tgt := 115) (dk kX3_printRows 12 rfl) (by decide) (fun c2 => ?_) (fun c2 => ?_)
    · replace h := ite_t h c2
      cases h
      exact g_sub [0, 1, 2, 3, 4, 5] rfl he
    · replace h := ite_f h c2
      refine g_iload_n C (i := 2) 2 rfl rfl (dk kX3_printRows 13 rfl) ?_
      refine g_iload C (i := 6) 6 rfl (dk kX3_printRows 14 rfl) ?_
      refine g_iadd C (dk kX3_printRows 15 rfl) ?_
      obtain ⟨x3, ex3, h⟩ := lt_inv h
      refine g_nmi ex3 ?_
      refine g_istore C (i := 7) (lv' := [(7, .int x3), (0, .ref (za Z v0)), (1, .ref (za Z v1)), (2, .int v2), (3, .ref (za Z v3)), (4, .int v4), (5, .int v5), (6, .int v6)]) (dk kX3_printRows 16 rfl) (by decide) rfl ?_
      refine g_aload_n C (i := 1) 2 rfl rfl (dk kX3_printRows 17 rfl) ?_
      obtain ⟨b4, eb4, h⟩ := bd_inv h
      obtain ⟨rb4, kb4⟩ := rf_inv eb4
      refine gRN_3_4 C k1 (nf_16 C) rb4 (dk kX3_printRows 18 rfl) ?_
      refine g_iload C (i := 5) 6 rfl (dk kX3_printRows 19 rfl) ?_
      obtain ⟨c5, h⟩ := gd_inv h
      refine g_iald C kb4 c5 (dk kX3_printRows 20 rfl) ?_
      refine g_iload C (i := 6) 7 rfl (dk kX3_printRows 21 rfl) ?_
      refine g_ishr C (dk kX3_printRows 22 rfl) ?_
      refine g_iconst C (v := 1) (by decide) (dk kX3_printRows 23 rfl) ?_
      refine g_iand C (dk kX3_printRows 24 rfl) ?_
      refine g_iconst C (v := 1) (by decide) (dk kX3_printRows 25 rfl) ?_
      obtain ⟨x6, ex6, h⟩ := lt_inv h
      have kj7 : G Z X 9 0 0 52 [(7, .int x3), (0, .ref (za Z v0)), (1, .ref (za Z v1)), (2, .int v2), (3, .ref (za Z v3)), (4, .int v4), (5, .int v5), (6, .int v6)] [.int x6] μ := by
        refine g_istore C (i := 8) (lv' := [(8, .int x6), (7, .int x3), (0, .ref (za Z v0)), (1, .ref (za Z v1)), (2, .int v2), (3, .ref (za Z v3)), (4, .int v4), (5, .int v5), (6, .int v6)]) (dk kX3_printRows 30 rfl) (by decide) rfl ?_
        refine g_iload C (i := 8) 0 rfl (dk kX3_printRows 31 rfl) ?_
        refine g_if_eq C (tgt := 75) (dk kX3_printRows 32 rfl) (by decide) (fun c8 => ?_) (fun c8 => ?_)
        · replace h := ite_t h c8
          refine g_aload_n C (i := 0) 2 rfl rfl (dk kX3_printRows 42 rfl) ?_
          obtain ⟨b9, eb9, h⟩ := bd_inv h
          obtain ⟨rb9, kb9⟩ := rf_inv eb9
          refine gR_2_2 C k0 (C.w wd_1_77) rb9 (dk kX3_printRows 43 rfl) ?_
          refine g_iload C (i := 7) 1 rfl (dk kX3_printRows 44 rfl) ?_
          obtain ⟨c10, h⟩ := gd_inv h
          refine g_iald C kb9 c10 (dk kX3_printRows 45 rfl) ?_
          refine g_aload_n C (i := 3) 5 rfl rfl (dk kX3_printRows 46 rfl) ?_
          refine g_iconst C (v := 1) (by decide) (dk kX3_printRows 47 rfl) ?_
          obtain ⟨c11, h⟩ := gd_inv h
          refine g_iald C k3 c11 (dk kX3_printRows 48 rfl) ?_
          refine g_icmp_le C (tgt := 91) (dk kX3_printRows 49 rfl) (by decide) (fun c12 => ?_) (fun c12 => ?_)
          · replace h := ite_t h c12
            refine g_iload C (i := 8) 0 rfl (dk kX3_printRows 51 rfl) ?_
            refine g_if_eq C (tgt := 109) (dk kX3_printRows 52 rfl) (by decide) (fun c13 => ?_) (fun c => by first | exact absurd c c8 | exact absurd c8 c)
            obtain ⟨x14, ex14, h⟩ := lt_inv h
            refine g_iinc C (i := 6) (v := x14) (lv' := [(6, .int x14), (8, .int x6), (7, .int x3), (0, .ref (za Z v0)), (1, .ref (za Z v1)), (2, .int v2), (3, .ref (za Z v3)), (4, .int v4), (5, .int v5)]) 8 (dk kX3_printRows 60 rfl) rfl (by rw [ex14]; rfl) (by decide) rfl ?_
            refine g_goto C (tgt := 16) (dk kX3_printRows 61 rfl) (by decide) ?_
            exact g_sub [3, 4, 5, 6, 7, 8, 0] rfl (ih μ v4 x14 y h he)
          · replace h := ite_f h c12
            obtain ⟨x15, ex15, h⟩ := lt_inv h
            refine g_iinc C (i := 4) (v := x15) (lv' := [(4, .int x15), (8, .int x6), (7, .int x3), (0, .ref (za Z v0)), (1, .ref (za Z v1)), (2, .int v2), (3, .ref (za Z v3)), (5, .int v5), (6, .int v6)]) 6 (dk kX3_printRows 50 rfl) rfl (by rw [ex15]; rfl) (by decide) rfl ?_
            refine g_iload C (i := 8) 1 rfl (dk kX3_printRows 51 rfl) ?_
            refine g_if_eq C (tgt := 109) (dk kX3_printRows 52 rfl) (by decide) (fun c16 => ?_) (fun c => by first | exact absurd c c8 | exact absurd c8 c)
            obtain ⟨x17, ex17, h⟩ := lt_inv h
            refine g_iinc C (i := 6) (v := x17) (lv' := [(6, .int x17), (4, .int x15), (8, .int x6), (7, .int x3), (0, .ref (za Z v0)), (1, .ref (za Z v1)), (2, .int v2), (3, .ref (za Z v3)), (5, .int v5)]) 8 (dk kX3_printRows 60 rfl) rfl (by rw [ex17]; rfl) (by decide) rfl ?_
            refine g_goto C (tgt := 16) (dk kX3_printRows 61 rfl) (by decide) ?_
            exact g_sub [4, 5, 6, 7, 1, 8, 0] rfl (ih μ x15 x17 y h he)
        · replace h := ite_f h c8
          refine g_aload_n C (i := 0) 2 rfl rfl (dk kX3_printRows 33 rfl) ?_
          refine g_iload C (i := 7) 1 rfl (dk kX3_printRows 34 rfl) ?_
          refine g_aload_n C (i := 3) 5 rfl rfl (dk kX3_printRows 35 rfl) ?_
          obtain ⟨x19, eq18, h⟩ := bd_inv h
          refine g_callV C E (rest := []) 2 (ct_X3_fadeOf k0 k3 eq18) wd_2_209 mm_X3_fadeOf ⟨rfl, by decide, by decide, by decide⟩ rfl (by decide) k0 (by decide) rfl rfl (Nat.le_of_ble_eq_true rfl) (by decide) (dk kX3_printRows 36 rfl) ?_
          refine g_aload_n C (i := 3) 5 rfl rfl (dk kX3_printRows 37 rfl) ?_
          refine g_iconst C (v := 4) (by decide) (dk kX3_printRows 38 rfl) ?_
          obtain ⟨c20, h⟩ := gd_inv h
          refine g_iald C k3 c20 (dk kX3_printRows 39 rfl) ?_
          refine g_icmp_le C (tgt := 91) (dk kX3_printRows 40 rfl) (by decide) (fun c21 => ?_) (fun c21 => ?_)
          · replace h := ite_t h c21
            refine g_iload C (i := 8) 0 rfl (dk kX3_printRows 51 rfl) ?_
            refine g_if_eq C (tgt := 109) (dk kX3_printRows 52 rfl) (by decide) (fun c => by first | exact absurd c c8 | exact absurd c8 c) (fun c22 => ?_)
            refine g_aload_n C (i := 0) 2 rfl rfl (dk kX3_printRows 53 rfl) ?_
            refine g_iload C (i := 7) 1 rfl (dk kX3_printRows 54 rfl) ?_
            refine g_bipush C (v := 10) (by decide) (dk kX3_printRows 55 rfl) ?_
            refine g_aload_n C (i := 1) 3 rfl rfl (dk kX3_printRows 56 rfl) ?_
            refine gIN_3_1 C k1 (nf_13 C) (dk kX3_printRows 57 rfl) ?_
            refine g_imul C (dk kX3_printRows 58 rfl) ?_
            obtain ⟨μ24, eq23, h⟩ := bd_inv h
            refine g_callV C E (rest := []) 2 (ct_X3_burn k0 eq23) wd_2_213 mm_X3_burn ⟨rfl, by decide, by decide, by decide⟩ rfl (by decide) k0 (by decide) rfl rfl (Nat.le_of_ble_eq_true rfl) (by decide) (dk kX3_printRows 59 rfl) ?_
            obtain ⟨x25, ex25, h⟩ := lt_inv h
            refine g_iinc C (i := 6) (v := x25) (lv' := [(6, .int x25), (8, .int x6), (7, .int x3), (0, .ref (za Z v0)), (1, .ref (za Z v1)), (2, .int v2), (3, .ref (za Z v3)), (4, .int v4), (5, .int v5)]) 8 (dk kX3_printRows 60 rfl) rfl (by rw [ex25]; rfl) (by decide) rfl ?_
            refine g_goto C (tgt := 16) (dk kX3_printRows 61 rfl) (by decide) ?_
            exact g_sub [3, 4, 5, 6, 7, 8, 0] rfl (ih μ24 v4 x25 y h he)
          · replace h := ite_f h c21
            refine g_goto C (tgt := 88) (dk kX3_printRows 41 rfl) (by decide) ?_
            obtain ⟨x26, ex26, h⟩ := lt_inv h
            refine g_iinc C (i := 4) (v := x26) (lv' := [(4, .int x26), (8, .int x6), (7, .int x3), (0, .ref (za Z v0)), (1, .ref (za Z v1)), (2, .int v2), (3, .ref (za Z v3)), (5, .int v5), (6, .int v6)]) 6 (dk kX3_printRows 50 rfl) rfl (by rw [ex26]; rfl) (by decide) rfl ?_
            refine g_iload C (i := 8) 1 rfl (dk kX3_printRows 51 rfl) ?_
            refine g_if_eq C (tgt := 109) (dk kX3_printRows 52 rfl) (by decide) (fun c => by first | exact absurd c c8 | exact absurd c8 c) (fun c27 => ?_)
            refine g_aload_n C (i := 0) 3 rfl rfl (dk kX3_printRows 53 rfl) ?_
            refine g_iload C (i := 7) 2 rfl (dk kX3_printRows 54 rfl) ?_
            refine g_bipush C (v := 10) (by decide) (dk kX3_printRows 55 rfl) ?_
            refine g_aload_n C (i := 1) 4 rfl rfl (dk kX3_printRows 56 rfl) ?_
            refine gIN_3_1 C k1 (nf_13 C) (dk kX3_printRows 57 rfl) ?_
            refine g_imul C (dk kX3_printRows 58 rfl) ?_
            obtain ⟨μ29, eq28, h⟩ := bd_inv h
            refine g_callV C E (rest := []) 2 (ct_X3_burn k0 eq28) wd_2_213 mm_X3_burn ⟨rfl, by decide, by decide, by decide⟩ rfl (by decide) k0 (by decide) rfl rfl (Nat.le_of_ble_eq_true rfl) (by decide) (dk kX3_printRows 59 rfl) ?_
            obtain ⟨x30, ex30, h⟩ := lt_inv h
            refine g_iinc C (i := 6) (v := x30) (lv' := [(6, .int x30), (4, .int x26), (8, .int x6), (7, .int x3), (0, .ref (za Z v0)), (1, .ref (za Z v1)), (2, .int v2), (3, .ref (za Z v3)), (5, .int v5)]) 8 (dk kX3_printRows 60 rfl) rfl (by rw [ex30]; rfl) (by decide) rfl ?_
            refine g_goto C (tgt := 16) (dk kX3_printRows 61 rfl) (by decide) ?_
            exact g_sub [4, 5, 6, 7, 1, 8, 0] rfl (ih μ29 x26 x30 y h he)
      clear h
      refine g_icmp_ne C (tgt := 51) (dk kX3_printRows 26 rfl) (by decide) (fun c31 => ?_) (fun c31 => ?_)
      · refine g_iconst C (v := 0) (by decide) (dk kX3_printRows 29 rfl) ?_
        exact g_nmi (by rw [ex6, if_neg c31]) kj7
      · refine g_iconst C (v := 1) (by decide) (dk kX3_printRows 27 rfl) ?_
        refine g_goto C (tgt := 52) (dk kX3_printRows 28 rfl) (by decide) ?_
        exact g_nmi (by rw [ex6, if_pos c31]) kj7
set_option maxRecDepth 100000 in
set_option maxHeartbeats 4000000 in
theorem gl_X3_printRows_6 {l : Launch} {Z : ZZ} {X : XX} (v0 : Nat) (v1 : Nat) (v2 : Int32) (v3 : Nat) (k0 : (zk Z v0).1 = 2) (k1 : (zk Z v1).1 = 3) (k3 : (zk Z v3).1 = 8) (C : Cx l Z false X cX3_printRows RX3 9 (some .int)) (E : xR X = rmm 1 0 0) : ∀ (n : Nat) (μ : Mm) (v4 : Int32) (v5 : Int32) (y : Int32 × Mm), f_X3_printRows_l6 (zk Z) v0 v1 v2 v3 n μ v4 v5 = some y → G Z X 9 0 0 128 [(4, .int y.1)] [] y.2 → G Z X 9 0 0 6 [(0, .ref (za Z v0)), (1, .ref (za Z v1)), (2, .int v2), (3, .ref (za Z v3)), (4, .int v4), (5, .int v5)] [] μ := by
  intro n
  induction n with
  | zero => intro μ v4 v5 y h he; unfold f_X3_printRows_l6 at h; cases h
  | succ n ih =>
    intro μ v4 v5 y h he
    unfold f_X3_printRows_l6 at h
    refine g_iload C (i := 5) 5 rfl (dk kX3_printRows 4 rfl) ?_
    refine g_bipush C (v := 6) (by decide) (dk kX3_printRows 5 rfl) ?_
    refine g_icmp_ge C (tgt := 128) (dk kX3_printRows 6 rfl) (by decide) (fun c1 => ?_) (fun c1 => ?_)
    · replace h := ite_t h c1
      cases h
      exact g_sub [4] rfl he
    · replace h := ite_f h c1
      refine g_iconst C (v := 0) (by decide) (dk kX3_printRows 7 rfl) ?_
      refine g_istore C (i := 6) (lv' := [(6, .int 0), (0, .ref (za Z v0)), (1, .ref (za Z v1)), (2, .int v2), (3, .ref (za Z v3)), (4, .int v4), (5, .int v5)]) (dk kX3_printRows 8 rfl) (by decide) rfl ?_
      obtain ⟨q32, eq32, h⟩ := bd_inv h
      refine g_sub [1, 2, 3, 4, 5, 6, 0] (lv' := [(0, .ref (za Z v0)), (1, .ref (za Z v1)), (2, .int v2), (3, .ref (za Z v3)), (4, .int v4), (5, .int v5), (6, .int 0)]) rfl ?_
      refine gl_X3_printRows_16 v0 v1 v2 v3 v5 k0 k1 k3 C E FU μ v4 0 _ eq32 ?_
      obtain ⟨x33, ex33, h⟩ := lt_inv h
      obtain ⟨μ34, eμ34, h⟩ := lt_inv h
      rw [← ex33, ← eμ34]
      refine g_aload_n C (i := 0) 0 rfl rfl (dk kX3_printRows 62 rfl) ?_
      refine g_aload_n C (i := 3) 3 rfl rfl (dk kX3_printRows 63 rfl) ?_
      refine g_iconst C (v := 0) (by decide) (dk kX3_printRows 64 rfl) ?_
      obtain ⟨c35, h⟩ := gd_inv h
      refine g_iald C k3 c35 (dk kX3_printRows 65 rfl) ?_
      obtain ⟨μ37, eq36, h⟩ := bd_inv h
      refine g_callV C E (rest := []) 1 (ct_X3_lose k0 eq36) wd_2_217 mm_X3_lose ⟨rfl, by decide, by decide, by decide⟩ rfl (by decide) k0 (by decide) rfl rfl (Nat.le_of_ble_eq_true rfl) (by decide) (dk kX3_printRows 66 rfl) ?_
      obtain ⟨x38, ex38, h⟩ := lt_inv h
      refine g_iinc C (i := 5) (v := x38) (lv' := [(5, .int x38), (0, .ref (za Z v0)), (1, .ref (za Z v1)), (2, .int v2), (3, .ref (za Z v3)), (4, .int x33)]) 5 (dk kX3_printRows 67 rfl) rfl (by rw [ex38]; rfl) (by decide) rfl ?_
      refine g_goto C (tgt := 6) (dk kX3_printRows 68 rfl) (by decide) ?_
      exact g_sub [1, 2, 3, 4, 5, 0] rfl (ih μ37 x33 x38 y h he)
set_option maxRecDepth 100000 in
set_option maxHeartbeats 4000000 in
theorem t_X3_printRows {l : Launch} {Z : ZZ} {X : XX} (μ : Mm) (a0 : Nat) (a1 : Nat) (a2 : Int32) (a3 : Nat) (r : Int32) (μ' : Mm) (k0 : (zk Z a0).1 = 2) (k1 : (zk Z a1).1 = 3) (k3 : (zk Z a3).1 = 8) (h : f_X3_printRows (zk Z) μ a0 a1 a2 a3 = some (r, μ')) (C : Cx l Z false X cX3_printRows RX3 9 (some .int)) (E : Ex Z X 1 0 0 (some (.int r)) Z μ') : G Z X 9 0 0 0 [(0, .ref (za Z a0)), (1, .ref (za Z a1)), (2, .int a2), (3, .ref (za Z a3))] [] μ := by
  unfold f_X3_printRows at h
  refine g_iconst C (v := 0) (by decide) (dk kX3_printRows 0 rfl) ?_
  refine g_istore C (i := 4) (lv' := [(4, .int 0), (0, .ref (za Z a0)), (1, .ref (za Z a1)), (2, .int a2), (3, .ref (za Z a3))]) (dk kX3_printRows 1 rfl) (by decide) rfl ?_
  refine g_iconst C (v := 0) (by decide) (dk kX3_printRows 2 rfl) ?_
  refine g_istore C (i := 5) (lv' := [(5, .int 0), (4, .int 0), (0, .ref (za Z a0)), (1, .ref (za Z a1)), (2, .int a2), (3, .ref (za Z a3))]) (dk kX3_printRows 3 rfl) (by decide) rfl ?_
  obtain ⟨q39, eq39, h⟩ := bd_inv h
  refine g_sub [2, 3, 4, 5, 1, 0] (lv' := [(0, .ref (za Z a0)), (1, .ref (za Z a1)), (2, .int a2), (3, .ref (za Z a3)), (4, .int 0), (5, .int 0)]) rfl ?_
  refine gl_X3_printRows_6 a0 a1 a2 a3 k0 k1 k3 C E.2 FU μ 0 0 _ eq39 ?_
  obtain ⟨x40, ex40, h⟩ := lt_inv h
  obtain ⟨μ41, eμ41, h⟩ := lt_inv h
  rw [← ex40, ← eμ41]
  refine g_iload C (i := 4) 0 rfl (dk kX3_printRows 69 rfl) ?_
  cases h
  exact g_iret C E rfl rfl (Nat.le_refl 0) (Nat.le_refl 0) (dk kX3_printRows 70 rfl)
theorem ct_X3_printRows {l : Launch} {Z : ZZ} {μ : Mm} {a0 : Nat} {a1 : Nat} {a2 : Int32} {a3 : Nat} {r : Int32} {μ' : Mm} (k0 : (zk Z a0).1 = 2) (k1 : (zk Z a1).1 = 3) (k3 : (zk Z a3).1 = 8) (h : f_X3_printRows (zk Z) μ a0 a1 a2 a3 = some (r, μ')) : CtM l Z false yX3_printRows cX3_printRows 9 (some .int) 1 0 0 [.ref (za Z a0), .ref (za Z a1), .int a2, .ref (za Z a3)] μ (some (.int r)) Z μ' := ct_of rfl rfl (Nat.le_of_ble_eq_true rfl) (fun X C E => t_X3_printRows μ a0 a1 a2 a3 r μ' k0 k1 k3 h C E)

def qX3_renew : List (Nat × Instr × Nat) := [(0, .aload_n 0, 1), (1, .getfield 15, 3), (4, .iload_n 1, 1), (5, .iconst 0, 1), (6, .iastore, 1), (7, .aload_n 0, 1), (8, .getfield 19, 3), (11, .iload_n 1, 1), (12, .iconst 0, 1), (13, .iastore, 1), (14, .aload_n 0, 1), (15, .getfield 22, 3), (18, .iload_n 1, 1), (19, .iconst 0, 1), (20, .iastore, 1), (21, .return_, 1)]
theorem kX3_renew : ∀ q ∈ qX3_renew, decode cX3_renew q.1 = .ok q.2 := by decide +kernel
def f_X3_renew (K : Nat → Nat × Nat) (μ : Mm) (a0 : Nat) (a1 : Int32) : Option (Mm) :=
  bd (rf K μ a0 2 8) fun b1 => gd (inb a1 (K b1).2) <| lt1 (sI μ b1 (ix a1) 0) fun μ3 => bd (rf K μ3 a0 3 8) fun b4 => gd (inb a1 (K b4).2) <| lt1 (sI μ3 b4 (ix a1) 0) fun μ6 => bd (rf K μ6 a0 4 8) fun b7 => gd (inb a1 (K b7).2) <| lt1 (sI μ6 b7 (ix a1) 0) fun μ9 => some (μ9)
set_option maxRecDepth 100000 in
set_option maxHeartbeats 4000000 in
theorem t_X3_renew {l : Launch} {Z : ZZ} {X : XX} (μ : Mm) (a0 : Nat) (a1 : Int32) (μ' : Mm) (k0 : (zk Z a0).1 = 2) (h : f_X3_renew (zk Z) μ a0 a1 = some μ') (C : Cx l Z false X cX3_renew RX3 2 none) (E : Ex Z X 0 0 0 none Z μ') : G Z X 2 0 0 0 [(0, .ref (za Z a0)), (1, .int a1)] [] μ := by
  unfold f_X3_renew at h
  refine g_aload_n C (i := 0) 0 rfl rfl (dk kX3_renew 0 rfl) ?_
  obtain ⟨b1, eb1, h⟩ := bd_inv h
  obtain ⟨rb1, kb1⟩ := rf_inv eb1
  refine gR_2_2 C k0 (C.w wd_1_77) rb1 (dk kX3_renew 1 rfl) ?_
  refine g_iload_n C (i := 1) 1 rfl rfl (dk kX3_renew 2 rfl) ?_
  refine g_iconst C (v := 0) (by decide) (dk kX3_renew 3 rfl) ?_
  obtain ⟨c2, h⟩ := gd_inv h
  obtain ⟨μ3, eμ3, h⟩ := lt_inv h
  refine g_iast C kb1 c2 eμ3 (dk kX3_renew 4 rfl) ?_
  refine g_aload_n C (i := 0) 0 rfl rfl (dk kX3_renew 5 rfl) ?_
  obtain ⟨b4, eb4, h⟩ := bd_inv h
  obtain ⟨rb4, kb4⟩ := rf_inv eb4
  refine gR_2_3 C k0 (C.w wd_1_79) rb4 (dk kX3_renew 6 rfl) ?_
  refine g_iload_n C (i := 1) 1 rfl rfl (dk kX3_renew 7 rfl) ?_
  refine g_iconst C (v := 0) (by decide) (dk kX3_renew 8 rfl) ?_
  obtain ⟨c5, h⟩ := gd_inv h
  obtain ⟨μ6, eμ6, h⟩ := lt_inv h
  refine g_iast C kb4 c5 eμ6 (dk kX3_renew 9 rfl) ?_
  refine g_aload_n C (i := 0) 0 rfl rfl (dk kX3_renew 10 rfl) ?_
  obtain ⟨b7, eb7, h⟩ := bd_inv h
  obtain ⟨rb7, kb7⟩ := rf_inv eb7
  refine gR_2_4 C k0 (C.w wd_1_81) rb7 (dk kX3_renew 11 rfl) ?_
  refine g_iload_n C (i := 1) 1 rfl rfl (dk kX3_renew 12 rfl) ?_
  refine g_iconst C (v := 0) (by decide) (dk kX3_renew 13 rfl) ?_
  obtain ⟨c8, h⟩ := gd_inv h
  obtain ⟨μ9, eμ9, h⟩ := lt_inv h
  refine g_iast C kb7 c8 eμ9 (dk kX3_renew 14 rfl) ?_
  cases h
  exact g_vret C E (Nat.le_refl 0) (Nat.le_refl 0) (dk kX3_renew 15 rfl)
theorem ct_X3_renew {l : Launch} {Z : ZZ} {μ : Mm} {a0 : Nat} {a1 : Int32} {μ' : Mm} (k0 : (zk Z a0).1 = 2) (h : f_X3_renew (zk Z) μ a0 a1 = some μ') : CtM l Z false yX3_renew cX3_renew 2 none 0 0 0 [.ref (za Z a0), .int a1] μ none Z μ' := ct_of rfl rfl (Nat.le_of_ble_eq_true rfl) (fun X C E => t_X3_renew μ a0 a1 μ' k0 h C E)

def qX3_renewAll : List (Nat × Instr × Nat) := [(0, .aload_n 0, 1), (1, .iload_n 1, 1), (2, .putfield 9, 3), (5, .iconst 0, 1), (6, .istore_n 2, 1), (7, .iload_n 2, 1), (8, .bipush 24, 2), (10, .if_icmp .ge 14, 3), (13, .aload_n 0, 1), (14, .iload_n 2, 1), (15, .invokevirtual 34, 3), (18, .iinc 2 1, 3), (21, .goto (-14), 3), (24, .return_, 1)]
theorem kX3_renewAll : ∀ q ∈ qX3_renewAll, decode cX3_renewAll q.1 = .ok q.2 := by decide +kernel
def f_X3_renewAll_l7 (K : Nat → Nat × Nat) (v0 : Nat) : Nat → Mm → Int32 → Option (Mm)
  | 0, _, _ => none
  | n + 1, μ, v2 => if 24 ≤ v2 then (some μ) else (bd (f_X3_renew K μ v0 v2) fun μ4 => lt1 (α := Int32) (v2 + 1) fun x5 => f_X3_renewAll_l7 K v0 n μ4 x5)
def f_X3_renewAll (K : Nat → Nat × Nat) (μ : Mm) (a0 : Nat) (a1 : Int32) : Option (Mm) :=
  lt1 (sI μ a0 0 a1) fun μ1 => bd (f_X3_renewAll_l7 K a0 FU μ1 0) fun q6 => lt1 q6 fun μ7 => some (μ7)
set_option maxRecDepth 100000 in
set_option maxHeartbeats 4000000 in
theorem gl_X3_renewAll_7 {l : Launch} {Z : ZZ} {X : XX} (v0 : Nat) (k0 : (zk Z v0).1 = 2) (C : Cx l Z false X cX3_renewAll RX3 3 none) (E : xR X = rmm 1 0 0) : ∀ (n : Nat) (μ : Mm) (v2 : Int32) (y : Mm), f_X3_renewAll_l7 (zk Z) v0 n μ v2 = some y → G Z X 3 0 0 24 [] [] y → G Z X 3 0 0 7 [(0, .ref (za Z v0)), (2, .int v2)] [] μ := by
  intro n
  induction n with
  | zero => intro μ v2 y h he; unfold f_X3_renewAll_l7 at h; cases h
  | succ n ih =>
    intro μ v2 y h he
    unfold f_X3_renewAll_l7 at h
    refine g_iload_n C (i := 2) 1 rfl rfl (dk kX3_renewAll 5 rfl) ?_
    refine g_bipush C (v := 24) (by decide) (dk kX3_renewAll 6 rfl) ?_
    refine g_icmp_ge C (tgt := 24) (dk kX3_renewAll 7 rfl) (by decide) (fun c2 => ?_) (fun c2 => ?_)
    · replace h := ite_t h c2
      cases h
      exact g_sub [] rfl he
    · replace h := ite_f h c2
      refine g_aload_n C (i := 0) 0 rfl rfl (dk kX3_renewAll 8 rfl) ?_
      refine g_iload_n C (i := 2) 1 rfl rfl (dk kX3_renewAll 9 rfl) ?_
      obtain ⟨μ4, eq3, h⟩ := bd_inv h
      refine g_callV C E (rest := []) 1 (ct_X3_renew k0 eq3) wd_3_28 mm_X3_renew ⟨rfl, by decide, by decide, by decide⟩ rfl (by decide) k0 (by decide) rfl rfl (Nat.le_of_ble_eq_true rfl) (by decide) (dk kX3_renewAll 10 rfl) ?_
      obtain ⟨x5, ex5, h⟩ := lt_inv h
      refine g_iinc C (i := 2) (v := x5) (lv' := [(2, .int x5), (0, .ref (za Z v0))]) 1 (dk kX3_renewAll 11 rfl) rfl (by rw [ex5]; rfl) (by decide) rfl ?_
      refine g_goto C (tgt := 7) (dk kX3_renewAll 12 rfl) (by decide) ?_
      exact g_sub [1, 0] rfl (ih μ4 x5 y h he)
set_option maxRecDepth 100000 in
set_option maxHeartbeats 4000000 in
theorem t_X3_renewAll {l : Launch} {Z : ZZ} {X : XX} (μ : Mm) (a0 : Nat) (a1 : Int32) (μ' : Mm) (k0 : (zk Z a0).1 = 2) (h : f_X3_renewAll (zk Z) μ a0 a1 = some μ') (C : Cx l Z false X cX3_renewAll RX3 3 none) (E : Ex Z X 1 0 0 none Z μ') : G Z X 3 0 0 0 [(0, .ref (za Z a0)), (1, .int a1)] [] μ := by
  unfold f_X3_renewAll at h
  refine g_aload_n C (i := 0) 0 rfl rfl (dk kX3_renewAll 0 rfl) ?_
  refine g_iload_n C (i := 1) 1 rfl rfl (dk kX3_renewAll 1 rfl) ?_
  obtain ⟨μ1, eμ1, h⟩ := lt_inv h
  refine pI_2_0 C k0 (C.w wd_1_72) eμ1 (dk kX3_renewAll 2 rfl) ?_
  refine g_iconst C (v := 0) (by decide) (dk kX3_renewAll 3 rfl) ?_
  refine g_istore_n C (i := 2) (lv' := [(2, .int 0), (0, .ref (za Z a0)), (1, .int a1)]) (dk kX3_renewAll 4 rfl) rfl (by decide) rfl ?_
  obtain ⟨q6, eq6, h⟩ := bd_inv h
  refine g_sub [1, 0] (lv' := [(0, .ref (za Z a0)), (2, .int 0)]) rfl ?_
  refine gl_X3_renewAll_7 a0 k0 C E.2 FU μ1 0 _ eq6 ?_
  obtain ⟨μ7, eμ7, h⟩ := lt_inv h
  rw [← eμ7]
  cases h
  exact g_vret C E (Nat.le_refl 0) (Nat.le_refl 0) (dk kX3_renewAll 13 rfl)
theorem ct_X3_renewAll {l : Launch} {Z : ZZ} {μ : Mm} {a0 : Nat} {a1 : Int32} {μ' : Mm} (k0 : (zk Z a0).1 = 2) (h : f_X3_renewAll (zk Z) μ a0 a1 = some μ') : CtM l Z false yX3_renewAll cX3_renewAll 3 none 1 0 0 [.ref (za Z a0), .int a1] μ none Z μ' := ct_of rfl rfl (Nat.le_of_ble_eq_true rfl) (fun X C E => t_X3_renewAll μ a0 a1 μ' k0 h C E)

def qX3_takeOver : List (Nat × Instr × Nat) := [(0, .aload_n 0, 1), (1, .aload_n 1, 1), (2, .getfield 9, 3), (5, .putfield 9, 3), (8, .aload_n 0, 1), (9, .aload_n 1, 1), (10, .getfield 25, 3), (13, .putfield 25, 3), (16, .aload_n 1, 1), (17, .getfield 15, 3), (20, .iconst 0, 1), (21, .aload_n 0, 1), (22, .getfield 15, 3), (25, .iconst 0, 1), (26, .bipush 24, 2), (28, .invokestatic 28, 3), (31, .aload_n 1, 1), (32, .getfield 19, 3), (35, .iconst 0, 1), (36, .aload_n 0, 1), (37, .getfield 19, 3), (40, .iconst 0, 1), (41, .bipush 24, 2), (43, .invokestatic 28, 3), (46, .aload_n 1, 1), (47, .getfield 22, 3), (50, .iconst 0, 1), (51, .aload_n 0, 1), (52, .getfield 22, 3), (55, .iconst 0, 1), (56, .bipush 24, 2), (58, .invokestatic 28, 3), (61, .return_, 1)]
theorem kX3_takeOver : ∀ q ∈ qX3_takeOver, decode cX3_takeOver q.1 = .ok q.2 := by decide +kernel
def f_X3_takeOver (K : Nat → Nat × Nat) (μ : Mm) (a0 : Nat) (a1 : Nat) : Option (Mm) :=
  lt1 (sI μ a0 0 (μ.1 a1 0)) fun μ1 => lt1 (sI μ1 a0 1 (μ1.1 a1 1)) fun μ2 => bd (rf K μ2 a1 2 8) fun b3 => bd (rf K μ2 a0 2 8) fun b4 => gd (okc 0 0 24 (K b3).2 (K b4).2) <| lt1 (sIr μ2 b4 (va_cpy (μ2.1 b3) (μ2.1 b4) (ix 0) (ix 0) (ix 24))) fun μ6 => bd (rf K μ6 a1 3 8) fun b7 => bd (rf K μ6 a0 3 8) fun b8 => gd (okc 0 0 24 (K b7).2 (K b8).2) <| lt1 (sIr μ6 b8 (va_cpy (μ6.1 b7) (μ6.1 b8) (ix 0) (ix 0) (ix 24))) fun μ10 => bd (rf K μ10 a1 4 8) fun b11 => bd (rf K μ10 a0 4 8) fun b12 => gd (okc 0 0 24 (K b11).2 (K b12).2) <| lt1 (sIr μ10 b12 (va_cpy (μ10.1 b11) (μ10.1 b12) (ix 0) (ix 0) (ix 24))) fun μ14 => some (μ14)
set_option maxRecDepth 100000 in
set_option maxHeartbeats 4000000 in
theorem t_X3_takeOver {l : Launch} {Z : ZZ} {X : XX} (μ : Mm) (a0 : Nat) (a1 : Nat) (μ' : Mm) (k0 : (zk Z a0).1 = 2) (k1 : (zk Z a1).1 = 2) (h : f_X3_takeOver (zk Z) μ a0 a1 = some μ') (C : Cx l Z false X cX3_takeOver RX3 2 none) (E : Ex Z X 1 0 0 none Z μ') : G Z X 2 0 0 0 [(0, .ref (za Z a0)), (1, .ref (za Z a1))] [] μ := by
  unfold f_X3_takeOver at h
  refine g_aload_n C (i := 0) 0 rfl rfl (dk kX3_takeOver 0 rfl) ?_
  refine g_aload_n C (i := 1) 1 rfl rfl (dk kX3_takeOver 1 rfl) ?_
  refine gI_2_0 C k1 (C.w wd_1_72) (dk kX3_takeOver 2 rfl) ?_
  obtain ⟨μ1, eμ1, h⟩ := lt_inv h
  refine pI_2_0 C k0 (C.w wd_1_72) eμ1 (dk kX3_takeOver 3 rfl) ?_
  refine g_aload_n C (i := 0) 0 rfl rfl (dk kX3_takeOver 4 rfl) ?_
  refine g_aload_n C (i := 1) 1 rfl rfl (dk kX3_takeOver 5 rfl) ?_
  refine gI_2_1 C k1 (C.w wd_1_75) (dk kX3_takeOver 6 rfl) ?_
  obtain ⟨μ2, eμ2, h⟩ := lt_inv h
  refine pI_2_1 C k0 (C.w wd_1_75) eμ2 (dk kX3_takeOver 7 rfl) ?_
  refine g_aload_n C (i := 1) 1 rfl rfl (dk kX3_takeOver 8 rfl) ?_
  obtain ⟨b3, eb3, h⟩ := bd_inv h
  obtain ⟨rb3, kb3⟩ := rf_inv eb3
  refine gR_2_2 C k1 (C.w wd_1_77) rb3 (dk kX3_takeOver 9 rfl) ?_
  refine g_iconst C (v := 0) (by decide) (dk kX3_takeOver 10 rfl) ?_
  refine g_aload_n C (i := 0) 0 rfl rfl (dk kX3_takeOver 11 rfl) ?_
  obtain ⟨b4, eb4, h⟩ := bd_inv h
  obtain ⟨rb4, kb4⟩ := rf_inv eb4
  refine gR_2_2 C k0 (C.w wd_1_77) rb4 (dk kX3_takeOver 12 rfl) ?_
  refine g_iconst C (v := 0) (by decide) (dk kX3_takeOver 13 rfl) ?_
  refine g_bipush C (v := 24) (by decide) (dk kX3_takeOver 14 rfl) ?_
  obtain ⟨c5, h⟩ := gd_inv h
  obtain ⟨μ6, eμ6, h⟩ := lt_inv h
  refine g_copy C E.2 kb3 kb4 c5 (by decide) (Nat.le_of_ble_eq_true rfl) (C.w wd_2_95) (C.w wd_1_109) (C.w wd_1_108) (C.w wd_1_7) eμ6 (dk kX3_takeOver 15 rfl) ?_
  refine g_aload_n C (i := 1) 1 rfl rfl (dk kX3_takeOver 16 rfl) ?_
  obtain ⟨b7, eb7, h⟩ := bd_inv h
  obtain ⟨rb7, kb7⟩ := rf_inv eb7
  refine gR_2_3 C k1 (C.w wd_1_79) rb7 (dk kX3_takeOver 17 rfl) ?_
  refine g_iconst C (v := 0) (by decide) (dk kX3_takeOver 18 rfl) ?_
  refine g_aload_n C (i := 0) 0 rfl rfl (dk kX3_takeOver 19 rfl) ?_
  obtain ⟨b8, eb8, h⟩ := bd_inv h
  obtain ⟨rb8, kb8⟩ := rf_inv eb8
  refine gR_2_3 C k0 (C.w wd_1_79) rb8 (dk kX3_takeOver 20 rfl) ?_
  refine g_iconst C (v := 0) (by decide) (dk kX3_takeOver 21 rfl) ?_
  refine g_bipush C (v := 24) (by decide) (dk kX3_takeOver 22 rfl) ?_
  obtain ⟨c9, h⟩ := gd_inv h
  obtain ⟨μ10, eμ10, h⟩ := lt_inv h
  refine g_copy C E.2 kb7 kb8 c9 (by decide) (Nat.le_of_ble_eq_true rfl) (C.w wd_2_95) (C.w wd_1_109) (C.w wd_1_108) (C.w wd_1_7) eμ10 (dk kX3_takeOver 23 rfl) ?_
  refine g_aload_n C (i := 1) 1 rfl rfl (dk kX3_takeOver 24 rfl) ?_
  obtain ⟨b11, eb11, h⟩ := bd_inv h
  obtain ⟨rb11, kb11⟩ := rf_inv eb11
  refine gR_2_4 C k1 (C.w wd_1_81) rb11 (dk kX3_takeOver 25 rfl) ?_
  refine g_iconst C (v := 0) (by decide) (dk kX3_takeOver 26 rfl) ?_
  refine g_aload_n C (i := 0) 0 rfl rfl (dk kX3_takeOver 27 rfl) ?_
  obtain ⟨b12, eb12, h⟩ := bd_inv h
  obtain ⟨rb12, kb12⟩ := rf_inv eb12
  refine gR_2_4 C k0 (C.w wd_1_81) rb12 (dk kX3_takeOver 28 rfl) ?_
  refine g_iconst C (v := 0) (by decide) (dk kX3_takeOver 29 rfl) ?_
  refine g_bipush C (v := 24) (by decide) (dk kX3_takeOver 30 rfl) ?_
  obtain ⟨c13, h⟩ := gd_inv h
  obtain ⟨μ14, eμ14, h⟩ := lt_inv h
  refine g_copy C E.2 kb11 kb12 c13 (by decide) (Nat.le_of_ble_eq_true rfl) (C.w wd_2_95) (C.w wd_1_109) (C.w wd_1_108) (C.w wd_1_7) eμ14 (dk kX3_takeOver 31 rfl) ?_
  cases h
  exact g_vret C E (Nat.le_refl 0) (Nat.le_refl 0) (dk kX3_takeOver 32 rfl)
theorem ct_X3_takeOver {l : Launch} {Z : ZZ} {μ : Mm} {a0 : Nat} {a1 : Nat} {μ' : Mm} (k0 : (zk Z a0).1 = 2) (k1 : (zk Z a1).1 = 2) (h : f_X3_takeOver (zk Z) μ a0 a1 = some μ') : CtM l Z false yX3_takeOver cX3_takeOver 2 none 1 0 0 [.ref (za Z a0), .ref (za Z a1)] μ none Z μ' := ct_of rfl rfl (Nat.le_of_ble_eq_true rfl) (fun X C E => t_X3_takeOver μ a0 a1 μ' k0 k1 h C E)

def qX3_takePart : List (Nat × Instr × Nat) := [(0, .aload_n 0, 1), (1, .iload_n 3, 1), (2, .putfield 9, 3), (5, .aload_n 1, 1), (6, .getfield 15, 3), (9, .iload_n 2, 1), (10, .aload_n 0, 1), (11, .getfield 15, 3), (14, .iconst 0, 1), (15, .iload_n 3, 1), (16, .invokestatic 28, 3), (19, .aload_n 1, 1), (20, .getfield 19, 3), (23, .iload_n 2, 1), (24, .aload_n 0, 1), (25, .getfield 19, 3), (28, .iconst 0, 1), (29, .iload_n 3, 1), (30, .invokestatic 28, 3), (33, .return_, 1)]
theorem kX3_takePart : ∀ q ∈ qX3_takePart, decode cX3_takePart q.1 = .ok q.2 := by decide +kernel
def f_X3_takePart (K : Nat → Nat × Nat) (μ : Mm) (a0 : Nat) (a1 : Nat) (a2 : Int32) (a3 : Int32) : Option (Mm) :=
  lt1 (sI μ a0 0 a3) fun μ1 => bd (rf K μ1 a1 2 8) fun b2 => bd (rf K μ1 a0 2 8) fun b3 => gd (okc a2 0 a3 (K b2).2 (K b3).2) <| lt1 (sIr μ1 b3 (va_cpy (μ1.1 b2) (μ1.1 b3) (ix a2) (ix 0) (ix a3))) fun μ5 => bd (rf K μ5 a1 3 8) fun b6 => bd (rf K μ5 a0 3 8) fun b7 => gd (okc a2 0 a3 (K b6).2 (K b7).2) <| lt1 (sIr μ5 b7 (va_cpy (μ5.1 b6) (μ5.1 b7) (ix a2) (ix 0) (ix a3))) fun μ9 => some (μ9)
set_option maxRecDepth 100000 in
set_option maxHeartbeats 4000000 in
theorem t_X3_takePart {l : Launch} {Z : ZZ} {X : XX} (μ : Mm) (a0 : Nat) (a1 : Nat) (a2 : Int32) (a3 : Int32) (μ' : Mm) (k0 : (zk Z a0).1 = 2) (k1 : (zk Z a1).1 = 2) (h : f_X3_takePart (zk Z) μ a0 a1 a2 a3 = some μ') (C : Cx l Z false X cX3_takePart RX3 4 none) (E : Ex Z X 1 0 0 none Z μ') : G Z X 4 0 0 0 [(0, .ref (za Z a0)), (1, .ref (za Z a1)), (2, .int a2), (3, .int a3)] [] μ := by
  unfold f_X3_takePart at h
  refine g_aload_n C (i := 0) 0 rfl rfl (dk kX3_takePart 0 rfl) ?_
  refine g_iload_n C (i := 3) 3 rfl rfl (dk kX3_takePart 1 rfl) ?_
  obtain ⟨μ1, eμ1, h⟩ := lt_inv h
  refine pI_2_0 C k0 (C.w wd_1_72) eμ1 (dk kX3_takePart 2 rfl) ?_
  refine g_aload_n C (i := 1) 1 rfl rfl (dk kX3_takePart 3 rfl) ?_
  obtain ⟨b2, eb2, h⟩ := bd_inv h
  obtain ⟨rb2, kb2⟩ := rf_inv eb2
  refine gR_2_2 C k1 (C.w wd_1_77) rb2 (dk kX3_takePart 4 rfl) ?_
  refine g_iload_n C (i := 2) 2 rfl rfl (dk kX3_takePart 5 rfl) ?_
  refine g_aload_n C (i := 0) 0 rfl rfl (dk kX3_takePart 6 rfl) ?_
  obtain ⟨b3, eb3, h⟩ := bd_inv h
  obtain ⟨rb3, kb3⟩ := rf_inv eb3
  refine gR_2_2 C k0 (C.w wd_1_77) rb3 (dk kX3_takePart 7 rfl) ?_
  refine g_iconst C (v := 0) (by decide) (dk kX3_takePart 8 rfl) ?_
  refine g_iload_n C (i := 3) 3 rfl rfl (dk kX3_takePart 9 rfl) ?_
  obtain ⟨c4, h⟩ := gd_inv h
  obtain ⟨μ5, eμ5, h⟩ := lt_inv h
  refine g_copy C E.2 kb2 kb3 c4 (by decide) (Nat.le_of_ble_eq_true rfl) (C.w wd_2_95) (C.w wd_1_109) (C.w wd_1_108) (C.w wd_1_7) eμ5 (dk kX3_takePart 10 rfl) ?_
  refine g_aload_n C (i := 1) 1 rfl rfl (dk kX3_takePart 11 rfl) ?_
  obtain ⟨b6, eb6, h⟩ := bd_inv h
  obtain ⟨rb6, kb6⟩ := rf_inv eb6
  refine gR_2_3 C k1 (C.w wd_1_79) rb6 (dk kX3_takePart 12 rfl) ?_
  refine g_iload_n C (i := 2) 2 rfl rfl (dk kX3_takePart 13 rfl) ?_
  refine g_aload_n C (i := 0) 0 rfl rfl (dk kX3_takePart 14 rfl) ?_
  obtain ⟨b7, eb7, h⟩ := bd_inv h
  obtain ⟨rb7, kb7⟩ := rf_inv eb7
  refine gR_2_3 C k0 (C.w wd_1_79) rb7 (dk kX3_takePart 15 rfl) ?_
  refine g_iconst C (v := 0) (by decide) (dk kX3_takePart 16 rfl) ?_
  refine g_iload_n C (i := 3) 3 rfl rfl (dk kX3_takePart 17 rfl) ?_
  obtain ⟨c8, h⟩ := gd_inv h
  obtain ⟨μ9, eμ9, h⟩ := lt_inv h
  refine g_copy C E.2 kb6 kb7 c8 (by decide) (Nat.le_of_ble_eq_true rfl) (C.w wd_2_95) (C.w wd_1_109) (C.w wd_1_108) (C.w wd_1_7) eμ9 (dk kX3_takePart 18 rfl) ?_
  cases h
  exact g_vret C E (Nat.le_refl 0) (Nat.le_refl 0) (dk kX3_takePart 19 rfl)
theorem ct_X3_takePart {l : Launch} {Z : ZZ} {μ : Mm} {a0 : Nat} {a1 : Nat} {a2 : Int32} {a3 : Int32} {μ' : Mm} (k0 : (zk Z a0).1 = 2) (k1 : (zk Z a1).1 = 2) (h : f_X3_takePart (zk Z) μ a0 a1 a2 a3 = some μ') : CtM l Z false yX3_takePart cX3_takePart 4 none 1 0 0 [.ref (za Z a0), .ref (za Z a1), .int a2, .int a3] μ none Z μ' := ct_of rfl rfl (Nat.le_of_ble_eq_true rfl) (fun X C E => t_X3_takePart μ a0 a1 a2 a3 μ' k0 k1 h C E)

def qX3_wearSum : List (Nat × Instr × Nat) := [(0, .iconst 0, 1), (1, .istore_n 3, 1), (2, .iload_n 1, 1), (3, .istore 4, 2), (5, .iload 4, 2), (7, .iload_n 2, 1), (8, .if_icmp .gt 19, 3), (11, .iload_n 3, 1), (12, .aload_n 0, 1), (13, .getfield 19, 3), (16, .iload 4, 2), (18, .iaload, 1), (19, .iadd, 1), (20, .istore_n 3, 1), (21, .iinc 4 1, 3), (24, .goto (-19), 3), (27, .iload_n 3, 1), (28, .ireturn, 1)]
theorem kX3_wearSum : ∀ q ∈ qX3_wearSum, decode cX3_wearSum q.1 = .ok q.2 := by decide +kernel
def f_X3_wearSum_l5 (K : Nat → Nat × Nat) (μ : Mm) (v0 : Nat) (v2 : Int32) : Nat → Int32 → Int32 → Option (Int32)
  | 0, _, _ => none
  | n + 1, v3, v4 => if v2 < v4 then (some v3) else (bd (rf K μ v0 3 8) fun b2 => gd (inb v4 (K b2).2) <| lt1 (α := Int32) (v3 + (μ.1 b2 (ix v4))) fun x4 => lt1 (α := Int32) (v4 + 1) fun x5 => f_X3_wearSum_l5 K μ v0 v2 n x4 x5)
def f_X3_wearSum (K : Nat → Nat × Nat) (μ : Mm) (a0 : Nat) (a1 : Int32) (a2 : Int32) : Option (Int32) :=
  bd (f_X3_wearSum_l5 K μ a0 a2 FU 0 a1) fun q6 => lt1 q6 fun x7 => some x7
set_option maxRecDepth 100000 in
set_option maxHeartbeats 4000000 in
theorem gl_X3_wearSum_5 {l : Launch} {Z : ZZ} {X : XX} (v0 : Nat) (v2 : Int32) (k0 : (zk Z v0).1 = 2) (μ : Mm) (C : Cx l Z false X cX3_wearSum RX3 5 (some .int)) (E : xR X = rmm 0 0 0) : ∀ (n : Nat) (v3 : Int32) (v4 : Int32) (y : Int32), f_X3_wearSum_l5 (zk Z) μ v0 v2 n v3 v4 = some y → G Z X 5 0 0 27 [(3, .int y)] [] (μ) → G Z X 5 0 0 5 [(0, .ref (za Z v0)), (2, .int v2), (3, .int v3), (4, .int v4)] [] μ := by
  intro n
  induction n with
  | zero => intro v3 v4 y h he; unfold f_X3_wearSum_l5 at h; cases h
  | succ n ih =>
    intro v3 v4 y h he
    unfold f_X3_wearSum_l5 at h
    refine g_iload C (i := 4) 3 rfl (dk kX3_wearSum 4 rfl) ?_
    refine g_iload_n C (i := 2) 1 rfl rfl (dk kX3_wearSum 5 rfl) ?_
    refine g_icmp_gt C (tgt := 27) (dk kX3_wearSum 6 rfl) (by decide) (fun c1 => ?_) (fun c1 => ?_)
    · replace h := ite_t h c1
      cases h
      exact g_sub [2] rfl he
    · replace h := ite_f h c1
      refine g_iload_n C (i := 3) 2 rfl rfl (dk kX3_wearSum 7 rfl) ?_
      refine g_aload_n C (i := 0) 0 rfl rfl (dk kX3_wearSum 8 rfl) ?_
      obtain ⟨b2, eb2, h⟩ := bd_inv h
      obtain ⟨rb2, kb2⟩ := rf_inv eb2
      refine gR_2_3 C k0 (C.w wd_1_79) rb2 (dk kX3_wearSum 9 rfl) ?_
      refine g_iload C (i := 4) 3 rfl (dk kX3_wearSum 10 rfl) ?_
      obtain ⟨c3, h⟩ := gd_inv h
      refine g_iald C kb2 c3 (dk kX3_wearSum 11 rfl) ?_
      refine g_iadd C (dk kX3_wearSum 12 rfl) ?_
      obtain ⟨x4, ex4, h⟩ := lt_inv h
      refine g_nmi ex4 ?_
      refine g_istore_n C (i := 3) (lv' := [(3, .int x4), (0, .ref (za Z v0)), (2, .int v2), (4, .int v4)]) (dk kX3_wearSum 13 rfl) rfl (by decide) rfl ?_
      obtain ⟨x5, ex5, h⟩ := lt_inv h
      refine g_iinc C (i := 4) (v := x5) (lv' := [(4, .int x5), (3, .int x4), (0, .ref (za Z v0)), (2, .int v2)]) 3 (dk kX3_wearSum 14 rfl) rfl (by rw [ex5]; rfl) (by decide) rfl ?_
      refine g_goto C (tgt := 5) (dk kX3_wearSum 15 rfl) (by decide) ?_
      exact g_sub [2, 3, 1, 0] rfl (ih x4 x5 y h he)
set_option maxRecDepth 100000 in
set_option maxHeartbeats 4000000 in
theorem t_X3_wearSum {l : Launch} {Z : ZZ} {X : XX} (μ : Mm) (a0 : Nat) (a1 : Int32) (a2 : Int32) (r : Int32) (k0 : (zk Z a0).1 = 2) (h : f_X3_wearSum (zk Z) μ a0 a1 a2 = some r) (C : Cx l Z false X cX3_wearSum RX3 5 (some .int)) (E : Ex Z X 0 0 0 (some (.int r)) Z μ) : G Z X 5 0 0 0 [(0, .ref (za Z a0)), (1, .int a1), (2, .int a2)] [] μ := by
  unfold f_X3_wearSum at h
  refine g_iconst C (v := 0) (by decide) (dk kX3_wearSum 0 rfl) ?_
  refine g_istore_n C (i := 3) (lv' := [(3, .int 0), (0, .ref (za Z a0)), (1, .int a1), (2, .int a2)]) (dk kX3_wearSum 1 rfl) rfl (by decide) rfl ?_
  refine g_iload_n C (i := 1) 2 rfl rfl (dk kX3_wearSum 2 rfl) ?_
  refine g_istore C (i := 4) (lv' := [(4, .int a1), (3, .int 0), (0, .ref (za Z a0)), (1, .int a1), (2, .int a2)]) (dk kX3_wearSum 3 rfl) (by decide) rfl ?_
  obtain ⟨q6, eq6, h⟩ := bd_inv h
  refine g_sub [2, 4, 1, 0] (lv' := [(0, .ref (za Z a0)), (2, .int a2), (3, .int 0), (4, .int a1)]) rfl ?_
  refine gl_X3_wearSum_5 a0 a2 k0 μ C E.2 FU 0 a1 _ eq6 ?_
  obtain ⟨x7, ex7, h⟩ := lt_inv h
  rw [← ex7]
  refine g_iload_n C (i := 3) 0 rfl rfl (dk kX3_wearSum 16 rfl) ?_
  cases h
  exact g_iret C E rfl rfl (Nat.le_refl 0) (Nat.le_refl 0) (dk kX3_wearSum 17 rfl)
theorem ct_X3_wearSum {l : Launch} {Z : ZZ} {μ : Mm} {a0 : Nat} {a1 : Int32} {a2 : Int32} {r : Int32} (k0 : (zk Z a0).1 = 2) (h : f_X3_wearSum (zk Z) μ a0 a1 a2 = some r) : CtM l Z false yX3_wearSum cX3_wearSum 5 (some .int) 0 0 0 [.ref (za Z a0), .int a1, .int a2] μ (some (.int r)) Z μ := ct_of rfl rfl (Nat.le_of_ble_eq_true rfl) (fun X C E => t_X3_wearSum μ a0 a1 a2 r k0 h C E)

def qX4_allColumns : List (Nat × Instr × Nat) := [(0, .iconst 1, 1), (1, .aload_n 0, 1), (2, .getfield 9, 3), (5, .ishl, 1), (6, .iconst 1, 1), (7, .isub, 1), (8, .ireturn, 1)]
theorem kX4_allColumns : ∀ q ∈ qX4_allColumns, decode cX4_allColumns q.1 = .ok q.2 := by decide +kernel
def f_X4_allColumns (K : Nat → Nat × Nat) (μ : Mm) (a0 : Nat) : Option (Int32) :=
  some ((1 <<< ((μ.1 a0 0) &&& 31)) - 1)
set_option maxRecDepth 100000 in
set_option maxHeartbeats 4000000 in
theorem t_X4_allColumns {l : Launch} {Z : ZZ} {X : XX} (μ : Mm) (a0 : Nat) (r : Int32) (k0 : (zk Z a0).1 = 3) (h : f_X4_allColumns (zk Z) μ a0 = some r) (C : Cx l Z false X cX4_allColumns RX4 1 (some .int)) (E : Ex Z X 0 0 0 (some (.int r)) Z μ) : G Z X 1 0 0 0 [(0, .ref (za Z a0))] [] μ := by
  unfold f_X4_allColumns at h
  refine g_iconst C (v := 1) (by decide) (dk kX4_allColumns 0 rfl) ?_
  refine g_aload_n C (i := 0) 0 rfl rfl (dk kX4_allColumns 1 rfl) ?_
  refine gI_3_0 C k0 (C.w wd_1_115) (dk kX4_allColumns 2 rfl) ?_
  refine g_ishl C (dk kX4_allColumns 3 rfl) ?_
  refine g_iconst C (v := 1) (by decide) (dk kX4_allColumns 4 rfl) ?_
  refine g_isub C (dk kX4_allColumns 5 rfl) ?_
  cases h
  exact g_iret C E rfl rfl (Nat.le_refl 0) (Nat.le_refl 0) (dk kX4_allColumns 6 rfl)
theorem ct_X4_allColumns {l : Launch} {Z : ZZ} {μ : Mm} {a0 : Nat} {r : Int32} (k0 : (zk Z a0).1 = 3) (h : f_X4_allColumns (zk Z) μ a0 = some r) : CtM l Z false yX4_allColumns cX4_allColumns 1 (some .int) 0 0 0 [.ref (za Z a0)] μ (some (.int r)) Z μ := ct_of rfl rfl (Nat.le_of_ble_eq_true rfl) (fun X C E => t_X4_allColumns μ a0 r k0 h C E)

def qX4_blackCells : List (Nat × Instr × Nat) := [(0, .iconst 0, 1), (1, .istore_n 1, 1), (2, .iconst 0, 1), (3, .istore_n 2, 1), (4, .iload_n 2, 1), (5, .bipush 6, 2), (7, .if_icmp .ge 21, 3), (10, .iload_n 1, 1), (11, .aload_n 0, 1), (12, .getfield 18, 3), (15, .iload_n 2, 1), (16, .iaload, 1), (17, .invokestatic 34, 3), (20, .iadd, 1), (21, .istore_n 1, 1), (22, .iinc 2 1, 3), (25, .goto (-21), 3), (28, .iload_n 1, 1), (29, .ireturn, 1)]
theorem kX4_blackCells : ∀ q ∈ qX4_blackCells, decode cX4_blackCells q.1 = .ok q.2 := by decide +kernel
def f_X4_blackCells_l4 (K : Nat → Nat × Nat) (μ : Mm) (v0 : Nat) : Nat → Int32 → Int32 → Option (Int32)
  | 0, _, _ => none
  | n + 1, v1, v2 => if 6 ≤ v2 then (some v1) else (bd (rf K μ v0 4 8) fun b2 => gd (inb v2 (K b2).2) <| bd (f_J6_bitCount_0f7a4 (μ.1 b2 (ix v2))) fun x5 => lt1 (α := Int32) (v1 + x5) fun x6 => lt1 (α := Int32) (v2 + 1) fun x7 => f_X4_blackCells_l4 K μ v0 n x6 x7)
def f_X4_blackCells (K : Nat → Nat × Nat) (μ : Mm) (a0 : Nat) : Option (Int32) :=
  bd (f_X4_blackCells_l4 K μ a0 FU 0 0) fun q8 => lt1 q8 fun x9 => some x9
set_option maxRecDepth 100000 in
set_option maxHeartbeats 4000000 in
theorem gl_X4_blackCells_4 {l : Launch} {Z : ZZ} {X : XX} (v0 : Nat) (k0 : (zk Z v0).1 = 3) (μ : Mm) (C : Cx l Z false X cX4_blackCells RX4 3 (some .int)) (E : xR X = rmm 1 0 0) : ∀ (n : Nat) (v1 : Int32) (v2 : Int32) (y : Int32), f_X4_blackCells_l4 (zk Z) μ v0 n v1 v2 = some y → G Z X 3 0 0 28 [(1, .int y)] [] (μ) → G Z X 3 0 0 4 [(0, .ref (za Z v0)), (1, .int v1), (2, .int v2)] [] μ := by
  intro n
  induction n with
  | zero => intro v1 v2 y h he; unfold f_X4_blackCells_l4 at h; cases h
  | succ n ih =>
    intro v1 v2 y h he
    unfold f_X4_blackCells_l4 at h
    refine g_iload_n C (i := 2) 2 rfl rfl (dk kX4_blackCells 4 rfl) ?_
    refine g_bipush C (v := 6) (by decide) (dk kX4_blackCells 5 rfl) ?_
    refine g_icmp_ge C (tgt := 28) (dk kX4_blackCells 6 rfl) (by decide) (fun c1 => ?_) (fun c1 => ?_)
    · replace h := ite_t h c1
      cases h
      exact g_sub [1] rfl he
    · replace h := ite_f h c1
      refine g_iload_n C (i := 1) 1 rfl rfl (dk kX4_blackCells 7 rfl) ?_
      refine g_aload_n C (i := 0) 0 rfl rfl (dk kX4_blackCells 8 rfl) ?_
      obtain ⟨b2, eb2, h⟩ := bd_inv h
      obtain ⟨rb2, kb2⟩ := rf_inv eb2
      refine gR_3_4 C k0 (C.w wd_1_125) rb2 (dk kX4_blackCells 9 rfl) ?_
      refine g_iload_n C (i := 2) 2 rfl rfl (dk kX4_blackCells 10 rfl) ?_
      obtain ⟨c3, h⟩ := gd_inv h
      refine g_iald C kb2 c3 (dk kX4_blackCells 11 rfl) ?_
      obtain ⟨x5, eq4, h⟩ := bd_inv h
      refine g_callS C E (rest := [.int v1]) 1 (ct_J6_bitCount_0f7a4  eq4) wd_2_179 mm_J6_bitCount_0f7a4 ⟨by decide, by decide, by decide⟩ rfl (by decide) rfl (Nat.le_of_ble_eq_true rfl) (by decide) (dk kX4_blackCells 12 rfl) ?_
      refine g_iadd C (dk kX4_blackCells 13 rfl) ?_
      obtain ⟨x6, ex6, h⟩ := lt_inv h
      refine g_nmi ex6 ?_
      refine g_istore_n C (i := 1) (lv' := [(1, .int x6), (0, .ref (za Z v0)), (2, .int v2)]) (dk kX4_blackCells 14 rfl) rfl (by decide) rfl ?_
      obtain ⟨x7, ex7, h⟩ := lt_inv h
      refine g_iinc C (i := 2) (v := x7) (lv' := [(2, .int x7), (1, .int x6), (0, .ref (za Z v0))]) 2 (dk kX4_blackCells 15 rfl) rfl (by rw [ex7]; rfl) (by decide) rfl ?_
      refine g_goto C (tgt := 4) (dk kX4_blackCells 16 rfl) (by decide) ?_
      exact g_sub [2, 1, 0] rfl (ih x6 x7 y h he)
set_option maxRecDepth 100000 in
set_option maxHeartbeats 4000000 in
theorem t_X4_blackCells {l : Launch} {Z : ZZ} {X : XX} (μ : Mm) (a0 : Nat) (r : Int32) (k0 : (zk Z a0).1 = 3) (h : f_X4_blackCells (zk Z) μ a0 = some r) (C : Cx l Z false X cX4_blackCells RX4 3 (some .int)) (E : Ex Z X 1 0 0 (some (.int r)) Z μ) : G Z X 3 0 0 0 [(0, .ref (za Z a0))] [] μ := by
  unfold f_X4_blackCells at h
  refine g_iconst C (v := 0) (by decide) (dk kX4_blackCells 0 rfl) ?_
  refine g_istore_n C (i := 1) (lv' := [(1, .int 0), (0, .ref (za Z a0))]) (dk kX4_blackCells 1 rfl) rfl (by decide) rfl ?_
  refine g_iconst C (v := 0) (by decide) (dk kX4_blackCells 2 rfl) ?_
  refine g_istore_n C (i := 2) (lv' := [(2, .int 0), (1, .int 0), (0, .ref (za Z a0))]) (dk kX4_blackCells 3 rfl) rfl (by decide) rfl ?_
  obtain ⟨q8, eq8, h⟩ := bd_inv h
  refine g_sub [2, 1, 0] (lv' := [(0, .ref (za Z a0)), (1, .int 0), (2, .int 0)]) rfl ?_
  refine gl_X4_blackCells_4 a0 k0 μ C E.2 FU 0 0 _ eq8 ?_
  obtain ⟨x9, ex9, h⟩ := lt_inv h
  rw [← ex9]
  refine g_iload_n C (i := 1) 0 rfl rfl (dk kX4_blackCells 17 rfl) ?_
  cases h
  exact g_iret C E rfl rfl (Nat.le_refl 0) (Nat.le_refl 0) (dk kX4_blackCells 18 rfl)
theorem ct_X4_blackCells {l : Launch} {Z : ZZ} {μ : Mm} {a0 : Nat} {r : Int32} (k0 : (zk Z a0).1 = 3) (h : f_X4_blackCells (zk Z) μ a0 = some r) : CtM l Z false yX4_blackCells cX4_blackCells 3 (some .int) 1 0 0 [.ref (za Z a0)] μ (some (.int r)) Z μ := ct_of rfl rfl (Nat.le_of_ble_eq_true rfl) (fun X C E => t_X4_blackCells μ a0 r k0 h C E)

def qX4_emptyColumns : List (Nat × Instr × Nat) := [(0, .iconst 0, 1), (1, .istore_n 1, 1), (2, .iconst 0, 1), (3, .istore_n 2, 1), (4, .iload_n 2, 1), (5, .bipush 6, 2), (7, .if_icmp .ge 18, 3), (10, .iload_n 1, 1), (11, .aload_n 0, 1), (12, .getfield 18, 3), (15, .iload_n 2, 1), (16, .iaload, 1), (17, .ior, 1), (18, .istore_n 1, 1), (19, .iinc 2 1, 3), (22, .goto (-18), 3), (25, .aload_n 0, 1), (26, .invokevirtual 40, 3), (29, .iload_n 1, 1), (30, .iconst (-1), 1), (31, .ixor, 1), (32, .iand, 1), (33, .ireturn, 1)]
theorem kX4_emptyColumns : ∀ q ∈ qX4_emptyColumns, decode cX4_emptyColumns q.1 = .ok q.2 := by decide +kernel
def f_X4_emptyColumns_l4 (K : Nat → Nat × Nat) (μ : Mm) (v0 : Nat) : Nat → Int32 → Int32 → Option (Int32)
  | 0, _, _ => none
  | n + 1, v1, v2 => if 6 ≤ v2 then (some v1) else (bd (rf K μ v0 4 8) fun b2 => gd (inb v2 (K b2).2) <| lt1 (α := Int32) (v1 ||| (μ.1 b2 (ix v2))) fun x4 => lt1 (α := Int32) (v2 + 1) fun x5 => f_X4_emptyColumns_l4 K μ v0 n x4 x5)
def f_X4_emptyColumns (K : Nat → Nat × Nat) (μ : Mm) (a0 : Nat) : Option (Int32) :=
  bd (f_X4_emptyColumns_l4 K μ a0 FU 0 0) fun q6 => lt1 q6 fun x7 => bd (f_X4_allColumns K μ a0) fun x9 => some (x9 &&& (x7 ^^^ (-1)))
set_option maxRecDepth 100000 in
set_option maxHeartbeats 4000000 in
theorem gl_X4_emptyColumns_4 {l : Launch} {Z : ZZ} {X : XX} (v0 : Nat) (k0 : (zk Z v0).1 = 3) (μ : Mm) (C : Cx l Z false X cX4_emptyColumns RX4 3 (some .int)) (E : xR X = rmm 1 0 0) : ∀ (n : Nat) (v1 : Int32) (v2 : Int32) (y : Int32), f_X4_emptyColumns_l4 (zk Z) μ v0 n v1 v2 = some y → G Z X 3 0 0 25 [(0, .ref (za Z v0)), (1, .int y)] [] (μ) → G Z X 3 0 0 4 [(0, .ref (za Z v0)), (1, .int v1), (2, .int v2)] [] μ := by
  intro n
  induction n with
  | zero => intro v1 v2 y h he; unfold f_X4_emptyColumns_l4 at h; cases h
  | succ n ih =>
    intro v1 v2 y h he
    unfold f_X4_emptyColumns_l4 at h
    refine g_iload_n C (i := 2) 2 rfl rfl (dk kX4_emptyColumns 4 rfl) ?_
    refine g_bipush C (v := 6) (by decide) (dk kX4_emptyColumns 5 rfl) ?_
    refine g_icmp_ge C (tgt := 25) (dk kX4_emptyColumns 6 rfl) (by decide) (fun c1 => ?_) (fun c1 => ?_)
    · replace h := ite_t h c1
      cases h
      exact g_sub [0, 1] rfl he
    · replace h := ite_f h c1
      refine g_iload_n C (i := 1) 1 rfl rfl (dk kX4_emptyColumns 7 rfl) ?_
      refine g_aload_n C (i := 0) 0 rfl rfl (dk kX4_emptyColumns 8 rfl) ?_
      obtain ⟨b2, eb2, h⟩ := bd_inv h
      obtain ⟨rb2, kb2⟩ := rf_inv eb2
      refine gR_3_4 C k0 (C.w wd_1_125) rb2 (dk kX4_emptyColumns 9 rfl) ?_
      refine g_iload_n C (i := 2) 2 rfl rfl (dk kX4_emptyColumns 10 rfl) ?_
      obtain ⟨c3, h⟩ := gd_inv h
      refine g_iald C kb2 c3 (dk kX4_emptyColumns 11 rfl) ?_
      refine g_ior C (dk kX4_emptyColumns 12 rfl) ?_
      obtain ⟨x4, ex4, h⟩ := lt_inv h
      refine g_nmi ex4 ?_
      refine g_istore_n C (i := 1) (lv' := [(1, .int x4), (0, .ref (za Z v0)), (2, .int v2)]) (dk kX4_emptyColumns 13 rfl) rfl (by decide) rfl ?_
      obtain ⟨x5, ex5, h⟩ := lt_inv h
      refine g_iinc C (i := 2) (v := x5) (lv' := [(2, .int x5), (1, .int x4), (0, .ref (za Z v0))]) 2 (dk kX4_emptyColumns 14 rfl) rfl (by rw [ex5]; rfl) (by decide) rfl ?_
      refine g_goto C (tgt := 4) (dk kX4_emptyColumns 15 rfl) (by decide) ?_
      exact g_sub [2, 1, 0] rfl (ih x4 x5 y h he)
set_option maxRecDepth 100000 in
set_option maxHeartbeats 4000000 in
theorem t_X4_emptyColumns {l : Launch} {Z : ZZ} {X : XX} (μ : Mm) (a0 : Nat) (r : Int32) (k0 : (zk Z a0).1 = 3) (h : f_X4_emptyColumns (zk Z) μ a0 = some r) (C : Cx l Z false X cX4_emptyColumns RX4 3 (some .int)) (E : Ex Z X 1 0 0 (some (.int r)) Z μ) : G Z X 3 0 0 0 [(0, .ref (za Z a0))] [] μ := by
  unfold f_X4_emptyColumns at h
  refine g_iconst C (v := 0) (by decide) (dk kX4_emptyColumns 0 rfl) ?_
  refine g_istore_n C (i := 1) (lv' := [(1, .int 0), (0, .ref (za Z a0))]) (dk kX4_emptyColumns 1 rfl) rfl (by decide) rfl ?_
  refine g_iconst C (v := 0) (by decide) (dk kX4_emptyColumns 2 rfl) ?_
  refine g_istore_n C (i := 2) (lv' := [(2, .int 0), (1, .int 0), (0, .ref (za Z a0))]) (dk kX4_emptyColumns 3 rfl) rfl (by decide) rfl ?_
  obtain ⟨q6, eq6, h⟩ := bd_inv h
  refine g_sub [2, 1, 0] (lv' := [(0, .ref (za Z a0)), (1, .int 0), (2, .int 0)]) rfl ?_
  refine gl_X4_emptyColumns_4 a0 k0 μ C E.2 FU 0 0 _ eq6 ?_
  obtain ⟨x7, ex7, h⟩ := lt_inv h
  rw [← ex7]
  refine g_aload_n C (i := 0) 0 rfl rfl (dk kX4_emptyColumns 16 rfl) ?_
  obtain ⟨x9, eq8, h⟩ := bd_inv h
  refine g_callV C E.2 (rest := []) 0 (ct_X4_allColumns k0 eq8) wd_4_8 mm_X4_allColumns ⟨rfl, by decide, by decide, by decide⟩ rfl (by decide) k0 (by decide) rfl rfl (Nat.le_of_ble_eq_true rfl) (by decide) (dk kX4_emptyColumns 17 rfl) ?_
  refine g_iload_n C (i := 1) 1 rfl rfl (dk kX4_emptyColumns 18 rfl) ?_
  refine g_iconst C (v := (-1)) (by decide) (dk kX4_emptyColumns 19 rfl) ?_
  refine g_ixor C (dk kX4_emptyColumns 20 rfl) ?_
  refine g_iand C (dk kX4_emptyColumns 21 rfl) ?_
  cases h
  exact g_iret C E rfl rfl (Nat.le_refl 0) (Nat.le_refl 0) (dk kX4_emptyColumns 22 rfl)
theorem ct_X4_emptyColumns {l : Launch} {Z : ZZ} {μ : Mm} {a0 : Nat} {r : Int32} (k0 : (zk Z a0).1 = 3) (h : f_X4_emptyColumns (zk Z) μ a0 = some r) : CtM l Z false yX4_emptyColumns cX4_emptyColumns 3 (some .int) 1 0 0 [.ref (za Z a0)] μ (some (.int r)) Z μ := ct_of rfl rfl (Nat.le_of_ble_eq_true rfl) (fun X C E => t_X4_emptyColumns μ a0 r k0 h C E)

def qX4_takeOver : List (Nat × Instr × Nat) := [(0, .aload_n 0, 1), (1, .aload_n 1, 1), (2, .getfield 9, 3), (5, .putfield 9, 3), (8, .aload_n 0, 1), (9, .aload_n 1, 1), (10, .getfield 15, 3), (13, .putfield 15, 3), (16, .aload_n 0, 1), (17, .aload_n 1, 1), (18, .getfield 22, 3), (21, .putfield 22, 3), (24, .aload_n 0, 1), (25, .aload_n 1, 1), (26, .getfield 25, 3), (29, .putfield 25, 3), (32, .aload_n 1, 1), (33, .getfield 18, 3), (36, .iconst 0, 1), (37, .aload_n 0, 1), (38, .getfield 18, 3), (41, .iconst 0, 1), (42, .bipush 6, 2), (44, .invokestatic 28, 3), (47, .return_, 1)]
theorem kX4_takeOver : ∀ q ∈ qX4_takeOver, decode cX4_takeOver q.1 = .ok q.2 := by decide +kernel
def f_X4_takeOver (K : Nat → Nat × Nat) (μ : Mm) (a0 : Nat) (a1 : Nat) : Option (Mm) :=
  lt1 (sI μ a0 0 (μ.1 a1 0)) fun μ1 => lt1 (sI μ1 a0 1 (μ1.1 a1 1)) fun μ2 => lt1 (sI μ2 a0 2 (μ2.1 a1 2)) fun μ3 => lt1 (sI μ3 a0 3 (μ3.1 a1 3)) fun μ4 => bd (rf K μ4 a1 4 8) fun b5 => bd (rf K μ4 a0 4 8) fun b6 => gd (okc 0 0 6 (K b5).2 (K b6).2) <| lt1 (sIr μ4 b6 (va_cpy (μ4.1 b5) (μ4.1 b6) (ix 0) (ix 0) (ix 6))) fun μ8 => some (μ8)
set_option maxRecDepth 100000 in
set_option maxHeartbeats 4000000 in
theorem t_X4_takeOver {l : Launch} {Z : ZZ} {X : XX} (μ : Mm) (a0 : Nat) (a1 : Nat) (μ' : Mm) (k0 : (zk Z a0).1 = 3) (k1 : (zk Z a1).1 = 3) (h : f_X4_takeOver (zk Z) μ a0 a1 = some μ') (C : Cx l Z false X cX4_takeOver RX4 2 none) (E : Ex Z X 1 0 0 none Z μ') : G Z X 2 0 0 0 [(0, .ref (za Z a0)), (1, .ref (za Z a1))] [] μ := by
  unfold f_X4_takeOver at h
  refine g_aload_n C (i := 0) 0 rfl rfl (dk kX4_takeOver 0 rfl) ?_
  refine g_aload_n C (i := 1) 1 rfl rfl (dk kX4_takeOver 1 rfl) ?_
  refine gI_3_0 C k1 (C.w wd_1_115) (dk kX4_takeOver 2 rfl) ?_
  obtain ⟨μ1, eμ1, h⟩ := lt_inv h
  refine pI_3_0 C k0 (C.w wd_1_115) eμ1 (dk kX4_takeOver 3 rfl) ?_
  refine g_aload_n C (i := 0) 0 rfl rfl (dk kX4_takeOver 4 rfl) ?_
  refine g_aload_n C (i := 1) 1 rfl rfl (dk kX4_takeOver 5 rfl) ?_
  refine gI_3_1 C k1 (C.w wd_1_118) (dk kX4_takeOver 6 rfl) ?_
  obtain ⟨μ2, eμ2, h⟩ := lt_inv h
  refine pI_3_1 C k0 (C.w wd_1_118) eμ2 (dk kX4_takeOver 7 rfl) ?_
  refine g_aload_n C (i := 0) 0 rfl rfl (dk kX4_takeOver 8 rfl) ?_
  refine g_aload_n C (i := 1) 1 rfl rfl (dk kX4_takeOver 9 rfl) ?_
  refine gI_3_2 C k1 (C.w wd_1_121) (dk kX4_takeOver 10 rfl) ?_
  obtain ⟨μ3, eμ3, h⟩ := lt_inv h
  refine pI_3_2 C k0 (C.w wd_1_121) eμ3 (dk kX4_takeOver 11 rfl) ?_
  refine g_aload_n C (i := 0) 0 rfl rfl (dk kX4_takeOver 12 rfl) ?_
  refine g_aload_n C (i := 1) 1 rfl rfl (dk kX4_takeOver 13 rfl) ?_
  refine gI_3_3 C k1 (C.w wd_1_123) (dk kX4_takeOver 14 rfl) ?_
  obtain ⟨μ4, eμ4, h⟩ := lt_inv h
  refine pI_3_3 C k0 (C.w wd_1_123) eμ4 (dk kX4_takeOver 15 rfl) ?_
  refine g_aload_n C (i := 1) 1 rfl rfl (dk kX4_takeOver 16 rfl) ?_
  obtain ⟨b5, eb5, h⟩ := bd_inv h
  obtain ⟨rb5, kb5⟩ := rf_inv eb5
  refine gR_3_4 C k1 (C.w wd_1_125) rb5 (dk kX4_takeOver 17 rfl) ?_
  refine g_iconst C (v := 0) (by decide) (dk kX4_takeOver 18 rfl) ?_
  refine g_aload_n C (i := 0) 0 rfl rfl (dk kX4_takeOver 19 rfl) ?_
  obtain ⟨b6, eb6, h⟩ := bd_inv h
  obtain ⟨rb6, kb6⟩ := rf_inv eb6
  refine gR_3_4 C k0 (C.w wd_1_125) rb6 (dk kX4_takeOver 20 rfl) ?_
  refine g_iconst C (v := 0) (by decide) (dk kX4_takeOver 21 rfl) ?_
  refine g_bipush C (v := 6) (by decide) (dk kX4_takeOver 22 rfl) ?_
  obtain ⟨c7, h⟩ := gd_inv h
  obtain ⟨μ8, eμ8, h⟩ := lt_inv h
  refine g_copy C E.2 kb5 kb6 c7 (by decide) (Nat.le_of_ble_eq_true rfl) (C.w wd_2_100) (C.w wd_1_109) (C.w wd_1_108) (C.w wd_1_7) eμ8 (dk kX4_takeOver 23 rfl) ?_
  cases h
  exact g_vret C E (Nat.le_refl 0) (Nat.le_refl 0) (dk kX4_takeOver 24 rfl)
theorem ct_X4_takeOver {l : Launch} {Z : ZZ} {μ : Mm} {a0 : Nat} {a1 : Nat} {μ' : Mm} (k0 : (zk Z a0).1 = 3) (k1 : (zk Z a1).1 = 3) (h : f_X4_takeOver (zk Z) μ a0 a1 = some μ') : CtM l Z false yX4_takeOver cX4_takeOver 2 none 1 0 0 [.ref (za Z a0), .ref (za Z a1)] μ none Z μ' := ct_of rfl rfl (Nat.le_of_ble_eq_true rfl) (fun X C E => t_X4_takeOver μ a0 a1 μ' k0 k1 h C E)

def qX4_value : List (Nat × Instr × Nat) := [(0, .iload_n 1, 1), (1, .tableswitch 60 0 4 #[35, 40, 45, 50, 55], 35), (36, .aload_n 0, 1), (37, .getfield 9, 3), (40, .ireturn, 1), (41, .aload_n 0, 1), (42, .getfield 15, 3), (45, .ireturn, 1), (46, .aload_n 0, 1), (47, .invokevirtual 44, 3), (50, .ireturn, 1), (51, .aload_n 0, 1), (52, .getfield 22, 3), (55, .ireturn, 1), (56, .aload_n 0, 1), (57, .getfield 25, 3), (60, .ireturn, 1), (61, .aload_n 0, 1), (62, .invokevirtual 47, 3), (65, .ireturn, 1)]
theorem kX4_value : ∀ q ∈ qX4_value, decode cX4_value q.1 = .ok q.2 := by decide +kernel
def f_X4_value (K : Nat → Nat × Nat) (μ : Mm) (a0 : Nat) (a1 : Int32) : Option (Int32) :=
  if a1 = 0 then (some (μ.1 a0 0)) else (if a1 = 1 then (some (μ.1 a0 1)) else (if a1 = 2 then (bd (f_X4_blackCells K μ a0) fun x5 => some x5) else (if a1 = 3 then (some (μ.1 a0 2)) else (if a1 = 4 then (some (μ.1 a0 3)) else (bd (f_X4_emptyColumns K μ a0) fun x9 => some x9)))))
set_option maxRecDepth 100000 in
set_option maxHeartbeats 4000000 in
theorem t_X4_value {l : Launch} {Z : ZZ} {X : XX} (μ : Mm) (a0 : Nat) (a1 : Int32) (r : Int32) (k0 : (zk Z a0).1 = 3) (h : f_X4_value (zk Z) μ a0 a1 = some r) (C : Cx l Z false X cX4_value RX4 2 (some .int)) (E : Ex Z X 2 0 0 (some (.int r)) Z μ) : G Z X 2 0 0 0 [(0, .ref (za Z a0)), (1, .int a1)] [] μ := by
  unfold f_X4_value at h
  refine g_iload_n C (i := 1) 1 rfl rfl (dk kX4_value 0 rfl) ?_
  by_cases c1 : a1 = 0
  · replace h := ite_t h c1
    refine g_tin C (tgt := 36) (dk kX4_value 1 rfl) (by rw [c1]; decide) (by rw [c1]; decide) (by rw [c1]; rfl) (by decide) ?_
    refine g_aload_n C (i := 0) 0 rfl rfl (dk kX4_value 2 rfl) ?_
    refine gI_3_0 C k0 (C.w wd_1_115) (dk kX4_value 3 rfl) ?_
    cases h
    exact g_iret C E rfl rfl (Nat.le_refl 0) (Nat.le_refl 0) (dk kX4_value 4 rfl)
  · replace h := ite_f h c1
    by_cases c2 : a1 = 1
    · replace h := ite_t h c2
      refine g_tin C (tgt := 41) (dk kX4_value 1 rfl) (by rw [c2]; decide) (by rw [c2]; decide) (by rw [c2]; rfl) (by decide) ?_
      refine g_aload_n C (i := 0) 0 rfl rfl (dk kX4_value 5 rfl) ?_
      refine gI_3_1 C k0 (C.w wd_1_118) (dk kX4_value 6 rfl) ?_
      cases h
      exact g_iret C E rfl rfl (Nat.le_refl 0) (Nat.le_refl 0) (dk kX4_value 7 rfl)
    · replace h := ite_f h c2
      by_cases c3 : a1 = 2
      · replace h := ite_t h c3
        refine g_tin C (tgt := 46) (dk kX4_value 1 rfl) (by rw [c3]; decide) (by rw [c3]; decide) (by rw [c3]; rfl) (by decide) ?_
        refine g_aload_n C (i := 0) 0 rfl rfl (dk kX4_value 8 rfl) ?_
        obtain ⟨x5, eq4, h⟩ := bd_inv h
        refine g_callV C E.2 (rest := []) 0 (ct_X4_blackCells k0 eq4) wd_4_3 mm_X4_blackCells ⟨rfl, by decide, by decide, by decide⟩ rfl (by decide) k0 (by decide) rfl rfl (Nat.le_of_ble_eq_true rfl) (by decide) (dk kX4_value 9 rfl) ?_
        cases h
        exact g_iret C E rfl rfl (Nat.le_refl 0) (Nat.le_refl 0) (dk kX4_value 10 rfl)
      · replace h := ite_f h c3
        by_cases c6 : a1 = 3
        · replace h := ite_t h c6
          refine g_tin C (tgt := 51) (dk kX4_value 1 rfl) (by rw [c6]; decide) (by rw [c6]; decide) (by rw [c6]; rfl) (by decide) ?_
          refine g_aload_n C (i := 0) 0 rfl rfl (dk kX4_value 11 rfl) ?_
          refine gI_3_2 C k0 (C.w wd_1_121) (dk kX4_value 12 rfl) ?_
          cases h
          exact g_iret C E rfl rfl (Nat.le_refl 0) (Nat.le_refl 0) (dk kX4_value 13 rfl)
        · replace h := ite_f h c6
          by_cases c7 : a1 = 4
          · replace h := ite_t h c7
            refine g_tin C (tgt := 56) (dk kX4_value 1 rfl) (by rw [c7]; decide) (by rw [c7]; decide) (by rw [c7]; rfl) (by decide) ?_
            refine g_aload_n C (i := 0) 0 rfl rfl (dk kX4_value 14 rfl) ?_
            refine gI_3_3 C k0 (C.w wd_1_123) (dk kX4_value 15 rfl) ?_
            cases h
            exact g_iret C E rfl rfl (Nat.le_refl 0) (Nat.le_refl 0) (dk kX4_value 16 rfl)
          · replace h := ite_f h c7
            refine g_tout C (tgt := 61) (dk kX4_value 1 rfl) (by have q0 := lv_neT c1 (a := 0) (by decide); have q1 := lv_neT c2 (a := 1) (by decide); have q2 := lv_neT c3 (a := 2) (by decide); have q3 := lv_neT c6 (a := 3) (by decide); have q4 := lv_neT c7 (a := 4) (by decide); omega) (by decide) ?_
            refine g_aload_n C (i := 0) 0 rfl rfl (dk kX4_value 17 rfl) ?_
            obtain ⟨x9, eq8, h⟩ := bd_inv h
            refine g_callV C E.2 (rest := []) 0 (ct_X4_emptyColumns k0 eq8) wd_4_4 mm_X4_emptyColumns ⟨rfl, by decide, by decide, by decide⟩ rfl (by decide) k0 (by decide) rfl rfl (Nat.le_of_ble_eq_true rfl) (by decide) (dk kX4_value 18 rfl) ?_
            cases h
            exact g_iret C E rfl rfl (Nat.le_refl 0) (Nat.le_refl 0) (dk kX4_value 19 rfl)
theorem ct_X4_value {l : Launch} {Z : ZZ} {μ : Mm} {a0 : Nat} {a1 : Int32} {r : Int32} (k0 : (zk Z a0).1 = 3) (h : f_X4_value (zk Z) μ a0 a1 = some r) : CtM l Z false yX4_value cX4_value 2 (some .int) 2 0 0 [.ref (za Z a0), .int a1] μ (some (.int r)) Z μ := ct_of rfl rfl (Nat.le_of_ble_eq_true rfl) (fun X C E => t_X4_value μ a0 a1 r k0 h C E)
end
section
def qX5_allEarned : List (Nat × Instr × Nat) := [(0, .iconst 0, 1), (1, .istore_n 1, 1), (2, .iconst 0, 1), (3, .istore_n 2, 1), (4, .iload_n 2, 1), (5, .aload_n 0, 1), (6, .getfield 62, 3), (9, .if_icmp .ge 31, 3), (12, .iload_n 1, 1), (13, .aload_n 0, 1), (14, .getfield 30, 3), (17, .iload_n 2, 1), (18, .aaload, 1), (19, .getfield 156, 3), (22, .aload_n 0, 1), (23, .getfield 30, 3), (26, .iload_n 2, 1), (27, .aaload, 1), (28, .getfield 163, 3), (31, .isub, 1), (32, .iadd, 1), (33, .istore_n 1, 1), (34, .iinc 2 1, 3), (37, .goto (-33), 3), (40, .iload_n 1, 1), (41, .ireturn, 1)]
theorem kX5_allEarned : ∀ q ∈ qX5_allEarned, decode cX5_allEarned q.1 = .ok q.2 := by decide +kernel
def f_X5_allEarned_l4 (K : Nat → Nat × Nat) (μ : Mm) (v0 : Nat) : Nat → Int32 → Int32 → Option (Int32)
  | 0, _, _ => none
  | n + 1, v1, v2 => if (μ.1 v0 6) ≤ v2 then (some v1) else (bd (rf K μ v0 5 9) fun b2 => gd (inb v2 (K b2).2) <| bd (rf K μ b2 (ix v2) 1) fun b4 => bd (rf K μ v0 5 9) fun b5 => gd (inb v2 (K b5).2) <| bd (rf K μ b5 (ix v2) 1) fun b7 => lt1 (α := Int32) (v1 + ((μ.1 b4 2) - (μ.1 b7 3))) fun x8 => lt1 (α := Int32) (v2 + 1) fun x9 => f_X5_allEarned_l4 K μ v0 n x8 x9)
def f_X5_allEarned (K : Nat → Nat × Nat) (μ : Mm) (a0 : Nat) : Option (Int32) :=
  bd (f_X5_allEarned_l4 K μ a0 FU 0 0) fun q10 => lt1 q10 fun x11 => some x11
set_option maxRecDepth 100000 in
set_option maxHeartbeats 4000000 in
theorem gl_X5_allEarned_4 {l : Launch} {Z : ZZ} {X : XX} (v0 : Nat) (k0 : (zk Z v0).1 = 4) (μ : Mm) (C : Cx l Z false X cX5_allEarned RX5 3 (some .int)) (E : xR X = rmm 0 0 0) : ∀ (n : Nat) (v1 : Int32) (v2 : Int32) (y : Int32), f_X5_allEarned_l4 (zk Z) μ v0 n v1 v2 = some y → G Z X 3 0 0 40 [(1, .int y)] [] (μ) → G Z X 3 0 0 4 [(0, .ref (za Z v0)), (1, .int v1), (2, .int v2)] [] μ := by
  intro n
  induction n with
  | zero => intro v1 v2 y h he; unfold f_X5_allEarned_l4 at h; cases h
  | succ n ih =>
    intro v1 v2 y h he
    unfold f_X5_allEarned_l4 at h
    refine g_iload_n C (i := 2) 2 rfl rfl (dk kX5_allEarned 4 rfl) ?_
    refine g_aload_n C (i := 0) 0 rfl rfl (dk kX5_allEarned 5 rfl) ?_
    refine gI_4_6 C k0 (C.w wd_1_180) (dk kX5_allEarned 6 rfl) ?_
    refine g_icmp_ge C (tgt := 40) (dk kX5_allEarned 7 rfl) (by decide) (fun c1 => ?_) (fun c1 => ?_)
    · replace h := ite_t h c1
      cases h
      exact g_sub [1] rfl he
    · replace h := ite_f h c1
      refine g_iload_n C (i := 1) 1 rfl rfl (dk kX5_allEarned 8 rfl) ?_
      refine g_aload_n C (i := 0) 0 rfl rfl (dk kX5_allEarned 9 rfl) ?_
      obtain ⟨b2, eb2, h⟩ := bd_inv h
      obtain ⟨rb2, kb2⟩ := rf_inv eb2
      refine gR_4_5 C k0 (C.w wd_1_178) rb2 (dk kX5_allEarned 10 rfl) ?_
      refine g_iload_n C (i := 2) 2 rfl rfl (dk kX5_allEarned 11 rfl) ?_
      obtain ⟨c3, h⟩ := gd_inv h
      obtain ⟨b4, eb4, h⟩ := bd_inv h
      obtain ⟨rb4, kb4⟩ := rf_inv eb4
      refine gA_9 C kb2 c3 rb4 (dk kX5_allEarned 12 rfl) ?_
      refine gIN_1_2 C kb4 (nf_21 C) (dk kX5_allEarned 13 rfl) ?_
      refine g_aload_n C (i := 0) 0 rfl rfl (dk kX5_allEarned 14 rfl) ?_
      obtain ⟨b5, eb5, h⟩ := bd_inv h
      obtain ⟨rb5, kb5⟩ := rf_inv eb5
      refine gR_4_5 C k0 (C.w wd_1_178) rb5 (dk kX5_allEarned 15 rfl) ?_
      refine g_iload_n C (i := 2) 2 rfl rfl (dk kX5_allEarned 16 rfl) ?_
      obtain ⟨c6, h⟩ := gd_inv h
      obtain ⟨b7, eb7, h⟩ := bd_inv h
      obtain ⟨rb7, kb7⟩ := rf_inv eb7
      refine gA_9 C kb5 c6 rb7 (dk kX5_allEarned 17 rfl) ?_
      refine gIN_1_3 C kb7 (nf_22 C) (dk kX5_allEarned 18 rfl) ?_
      refine g_isub C (dk kX5_allEarned 19 rfl) ?_
      refine g_iadd C (dk kX5_allEarned 20 rfl) ?_
      obtain ⟨x8, ex8, h⟩ := lt_inv h
      refine g_nmi ex8 ?_
      refine g_istore_n C (i := 1) (lv' := [(1, .int x8), (0, .ref (za Z v0)), (2, .int v2)]) (dk kX5_allEarned 21 rfl) rfl (by decide) rfl ?_
      obtain ⟨x9, ex9, h⟩ := lt_inv h
      refine g_iinc C (i := 2) (v := x9) (lv' := [(2, .int x9), (1, .int x8), (0, .ref (za Z v0))]) 2 (dk kX5_allEarned 22 rfl) rfl (by rw [ex9]; rfl) (by decide) rfl ?_
      refine g_goto C (tgt := 4) (dk kX5_allEarned 23 rfl) (by decide) ?_
      exact g_sub [2, 1, 0] rfl (ih x8 x9 y h he)
set_option maxRecDepth 100000 in
set_option maxHeartbeats 4000000 in
theorem t_X5_allEarned {l : Launch} {Z : ZZ} {X : XX} (μ : Mm) (a0 : Nat) (r : Int32) (k0 : (zk Z a0).1 = 4) (h : f_X5_allEarned (zk Z) μ a0 = some r) (C : Cx l Z false X cX5_allEarned RX5 3 (some .int)) (E : Ex Z X 0 0 0 (some (.int r)) Z μ) : G Z X 3 0 0 0 [(0, .ref (za Z a0))] [] μ := by
  unfold f_X5_allEarned at h
  refine g_iconst C (v := 0) (by decide) (dk kX5_allEarned 0 rfl) ?_
  refine g_istore_n C (i := 1) (lv' := [(1, .int 0), (0, .ref (za Z a0))]) (dk kX5_allEarned 1 rfl) rfl (by decide) rfl ?_
  refine g_iconst C (v := 0) (by decide) (dk kX5_allEarned 2 rfl) ?_
  refine g_istore_n C (i := 2) (lv' := [(2, .int 0), (1, .int 0), (0, .ref (za Z a0))]) (dk kX5_allEarned 3 rfl) rfl (by decide) rfl ?_
  obtain ⟨q10, eq10, h⟩ := bd_inv h
  refine g_sub [2, 1, 0] (lv' := [(0, .ref (za Z a0)), (1, .int 0), (2, .int 0)]) rfl ?_
  refine gl_X5_allEarned_4 a0 k0 μ C E.2 FU 0 0 _ eq10 ?_
  obtain ⟨x11, ex11, h⟩ := lt_inv h
  rw [← ex11]
  refine g_iload_n C (i := 1) 0 rfl rfl (dk kX5_allEarned 24 rfl) ?_
  cases h
  exact g_iret C E rfl rfl (Nat.le_refl 0) (Nat.le_refl 0) (dk kX5_allEarned 25 rfl)
theorem ct_X5_allEarned {l : Launch} {Z : ZZ} {μ : Mm} {a0 : Nat} {r : Int32} (k0 : (zk Z a0).1 = 4) (h : f_X5_allEarned (zk Z) μ a0 = some r) : CtM l Z false yX5_allEarned cX5_allEarned 3 (some .int) 0 0 0 [.ref (za Z a0)] μ (some (.int r)) Z μ := ct_of rfl rfl (Nat.le_of_ble_eq_true rfl) (fun X C E => t_X5_allEarned μ a0 r k0 h C E)

def qX5_allFailed : List (Nat × Instr × Nat) := [(0, .iconst 0, 1), (1, .istore_n 1, 1), (2, .iconst 0, 1), (3, .istore_n 2, 1), (4, .iload_n 2, 1), (5, .aload_n 0, 1), (6, .getfield 55, 3), (9, .if_icmp .ge 21, 3), (12, .iload_n 1, 1), (13, .aload_n 0, 1), (14, .getfield 24, 3), (17, .iload_n 2, 1), (18, .aaload, 1), (19, .getfield 169, 3), (22, .iadd, 1), (23, .istore_n 1, 1), (24, .iinc 2 1, 3), (27, .goto (-23), 3), (30, .iload_n 1, 1), (31, .ireturn, 1)]
theorem kX5_allFailed : ∀ q ∈ qX5_allFailed, decode cX5_allFailed q.1 = .ok q.2 := by decide +kernel
def f_X5_allFailed_l4 (K : Nat → Nat × Nat) (μ : Mm) (v0 : Nat) : Nat → Int32 → Int32 → Option (Int32)
  | 0, _, _ => none
  | n + 1, v1, v2 => if (μ.1 v0 4) ≤ v2 then (some v1) else (bd (rf K μ v0 3 10) fun b2 => gd (inb v2 (K b2).2) <| bd (rf K μ b2 (ix v2) 3) fun b4 => lt1 (α := Int32) (v1 + (μ.1 b4 3)) fun x5 => lt1 (α := Int32) (v2 + 1) fun x6 => f_X5_allFailed_l4 K μ v0 n x5 x6)
def f_X5_allFailed (K : Nat → Nat × Nat) (μ : Mm) (a0 : Nat) : Option (Int32) :=
  bd (f_X5_allFailed_l4 K μ a0 FU 0 0) fun q7 => lt1 q7 fun x8 => some x8
set_option maxRecDepth 100000 in
set_option maxHeartbeats 4000000 in
theorem gl_X5_allFailed_4 {l : Launch} {Z : ZZ} {X : XX} (v0 : Nat) (k0 : (zk Z v0).1 = 4) (μ : Mm) (C : Cx l Z false X cX5_allFailed RX5 3 (some .int)) (E : xR X = rmm 0 0 0) : ∀ (n : Nat) (v1 : Int32) (v2 : Int32) (y : Int32), f_X5_allFailed_l4 (zk Z) μ v0 n v1 v2 = some y → G Z X 3 0 0 30 [(1, .int y)] [] (μ) → G Z X 3 0 0 4 [(0, .ref (za Z v0)), (1, .int v1), (2, .int v2)] [] μ := by
  intro n
  induction n with
  | zero => intro v1 v2 y h he; unfold f_X5_allFailed_l4 at h; cases h
  | succ n ih =>
    intro v1 v2 y h he
    unfold f_X5_allFailed_l4 at h
    refine g_iload_n C (i := 2) 2 rfl rfl (dk kX5_allFailed 4 rfl) ?_
    refine g_aload_n C (i := 0) 0 rfl rfl (dk kX5_allFailed 5 rfl) ?_
    refine gI_4_4 C k0 (C.w wd_1_176) (dk kX5_allFailed 6 rfl) ?_
    refine g_icmp_ge C (tgt := 30) (dk kX5_allFailed 7 rfl) (by decide) (fun c1 => ?_) (fun c1 => ?_)
    · replace h := ite_t h c1
      cases h
      exact g_sub [1] rfl he
    · replace h := ite_f h c1
      refine g_iload_n C (i := 1) 1 rfl rfl (dk kX5_allFailed 8 rfl) ?_
      refine g_aload_n C (i := 0) 0 rfl rfl (dk kX5_allFailed 9 rfl) ?_
      obtain ⟨b2, eb2, h⟩ := bd_inv h
      obtain ⟨rb2, kb2⟩ := rf_inv eb2
      refine gR_4_3 C k0 (C.w wd_1_174) rb2 (dk kX5_allFailed 10 rfl) ?_
      refine g_iload_n C (i := 2) 2 rfl rfl (dk kX5_allFailed 11 rfl) ?_
      obtain ⟨c3, h⟩ := gd_inv h
      obtain ⟨b4, eb4, h⟩ := bd_inv h
      obtain ⟨rb4, kb4⟩ := rf_inv eb4
      refine gA_10 C kb2 c3 rb4 (dk kX5_allFailed 12 rfl) ?_
      refine gIN_3_3 C kb4 (nf_15 C) (dk kX5_allFailed 13 rfl) ?_
      refine g_iadd C (dk kX5_allFailed 14 rfl) ?_
      obtain ⟨x5, ex5, h⟩ := lt_inv h
      refine g_nmi ex5 ?_
      refine g_istore_n C (i := 1) (lv' := [(1, .int x5), (0, .ref (za Z v0)), (2, .int v2)]) (dk kX5_allFailed 15 rfl) rfl (by decide) rfl ?_
      obtain ⟨x6, ex6, h⟩ := lt_inv h
      refine g_iinc C (i := 2) (v := x6) (lv' := [(2, .int x6), (1, .int x5), (0, .ref (za Z v0))]) 2 (dk kX5_allFailed 16 rfl) rfl (by rw [ex6]; rfl) (by decide) rfl ?_
      refine g_goto C (tgt := 4) (dk kX5_allFailed 17 rfl) (by decide) ?_
      exact g_sub [2, 1, 0] rfl (ih x5 x6 y h he)
set_option maxRecDepth 100000 in
set_option maxHeartbeats 4000000 in
theorem t_X5_allFailed {l : Launch} {Z : ZZ} {X : XX} (μ : Mm) (a0 : Nat) (r : Int32) (k0 : (zk Z a0).1 = 4) (h : f_X5_allFailed (zk Z) μ a0 = some r) (C : Cx l Z false X cX5_allFailed RX5 3 (some .int)) (E : Ex Z X 0 0 0 (some (.int r)) Z μ) : G Z X 3 0 0 0 [(0, .ref (za Z a0))] [] μ := by
  unfold f_X5_allFailed at h
  refine g_iconst C (v := 0) (by decide) (dk kX5_allFailed 0 rfl) ?_
  refine g_istore_n C (i := 1) (lv' := [(1, .int 0), (0, .ref (za Z a0))]) (dk kX5_allFailed 1 rfl) rfl (by decide) rfl ?_
  refine g_iconst C (v := 0) (by decide) (dk kX5_allFailed 2 rfl) ?_
  refine g_istore_n C (i := 2) (lv' := [(2, .int 0), (1, .int 0), (0, .ref (za Z a0))]) (dk kX5_allFailed 3 rfl) rfl (by decide) rfl ?_
  obtain ⟨q7, eq7, h⟩ := bd_inv h
  refine g_sub [2, 1, 0] (lv' := [(0, .ref (za Z a0)), (1, .int 0), (2, .int 0)]) rfl ?_
  refine gl_X5_allFailed_4 a0 k0 μ C E.2 FU 0 0 _ eq7 ?_
  obtain ⟨x8, ex8, h⟩ := lt_inv h
  rw [← ex8]
  refine g_iload_n C (i := 1) 0 rfl rfl (dk kX5_allFailed 18 rfl) ?_
  cases h
  exact g_iret C E rfl rfl (Nat.le_refl 0) (Nat.le_refl 0) (dk kX5_allFailed 19 rfl)
theorem ct_X5_allFailed {l : Launch} {Z : ZZ} {μ : Mm} {a0 : Nat} {r : Int32} (k0 : (zk Z a0).1 = 4) (h : f_X5_allFailed (zk Z) μ a0 = some r) : CtM l Z false yX5_allFailed cX5_allFailed 3 (some .int) 0 0 0 [.ref (za Z a0)] μ (some (.int r)) Z μ := ct_of rfl rfl (Nat.le_of_ble_eq_true rfl) (fun X C E => t_X5_allFailed μ a0 r k0 h C E)

def qX5_allPrinted : List (Nat × Instr × Nat) := [(0, .iconst 0, 1), (1, .istore_n 1, 1), (2, .iconst 0, 1), (3, .istore_n 2, 1), (4, .iload_n 2, 1), (5, .aload_n 0, 1), (6, .getfield 55, 3), (9, .if_icmp .ge 21, 3), (12, .iload_n 1, 1), (13, .aload_n 0, 1), (14, .getfield 24, 3), (17, .iload_n 2, 1), (18, .aaload, 1), (19, .getfield 162, 3), (22, .iadd, 1), (23, .istore_n 1, 1), (24, .iinc 2 1, 3), (27, .goto (-23), 3), (30, .iload_n 1, 1), (31, .ireturn, 1)]
theorem kX5_allPrinted : ∀ q ∈ qX5_allPrinted, decode cX5_allPrinted q.1 = .ok q.2 := by decide +kernel
def f_X5_allPrinted_l4 (K : Nat → Nat × Nat) (μ : Mm) (v0 : Nat) : Nat → Int32 → Int32 → Option (Int32)
  | 0, _, _ => none
  | n + 1, v1, v2 => if (μ.1 v0 4) ≤ v2 then (some v1) else (bd (rf K μ v0 3 10) fun b2 => gd (inb v2 (K b2).2) <| bd (rf K μ b2 (ix v2) 3) fun b4 => lt1 (α := Int32) (v1 + (μ.1 b4 2)) fun x5 => lt1 (α := Int32) (v2 + 1) fun x6 => f_X5_allPrinted_l4 K μ v0 n x5 x6)
def f_X5_allPrinted (K : Nat → Nat × Nat) (μ : Mm) (a0 : Nat) : Option (Int32) :=
  bd (f_X5_allPrinted_l4 K μ a0 FU 0 0) fun q7 => lt1 q7 fun x8 => some x8
set_option maxRecDepth 100000 in
set_option maxHeartbeats 4000000 in
theorem gl_X5_allPrinted_4 {l : Launch} {Z : ZZ} {X : XX} (v0 : Nat) (k0 : (zk Z v0).1 = 4) (μ : Mm) (C : Cx l Z false X cX5_allPrinted RX5 3 (some .int)) (E : xR X = rmm 0 0 0) : ∀ (n : Nat) (v1 : Int32) (v2 : Int32) (y : Int32), f_X5_allPrinted_l4 (zk Z) μ v0 n v1 v2 = some y → G Z X 3 0 0 30 [(1, .int y)] [] (μ) → G Z X 3 0 0 4 [(0, .ref (za Z v0)), (1, .int v1), (2, .int v2)] [] μ := by
  intro n
  induction n with
  | zero => intro v1 v2 y h he; unfold f_X5_allPrinted_l4 at h; cases h
  | succ n ih =>
    intro v1 v2 y h he
    unfold f_X5_allPrinted_l4 at h
    refine g_iload_n C (i := 2) 2 rfl rfl (dk kX5_allPrinted 4 rfl) ?_
    refine g_aload_n C (i := 0) 0 rfl rfl (dk kX5_allPrinted 5 rfl) ?_
    refine gI_4_4 C k0 (C.w wd_1_176) (dk kX5_allPrinted 6 rfl) ?_
    refine g_icmp_ge C (tgt := 30) (dk kX5_allPrinted 7 rfl) (by decide) (fun c1 => ?_) (fun c1 => ?_)
    · replace h := ite_t h c1
      cases h
      exact g_sub [1] rfl he
    · replace h := ite_f h c1
      refine g_iload_n C (i := 1) 1 rfl rfl (dk kX5_allPrinted 8 rfl) ?_
      refine g_aload_n C (i := 0) 0 rfl rfl (dk kX5_allPrinted 9 rfl) ?_
      obtain ⟨b2, eb2, h⟩ := bd_inv h
      obtain ⟨rb2, kb2⟩ := rf_inv eb2
      refine gR_4_3 C k0 (C.w wd_1_174) rb2 (dk kX5_allPrinted 10 rfl) ?_
      refine g_iload_n C (i := 2) 2 rfl rfl (dk kX5_allPrinted 11 rfl) ?_
      obtain ⟨c3, h⟩ := gd_inv h
      obtain ⟨b4, eb4, h⟩ := bd_inv h
      obtain ⟨rb4, kb4⟩ := rf_inv eb4
      refine gA_10 C kb2 c3 rb4 (dk kX5_allPrinted 12 rfl) ?_
      refine gIN_3_2 C kb4 (nf_14 C) (dk kX5_allPrinted 13 rfl) ?_
      refine g_iadd C (dk kX5_allPrinted 14 rfl) ?_
      obtain ⟨x5, ex5, h⟩ := lt_inv h
      refine g_nmi ex5 ?_
      refine g_istore_n C (i := 1) (lv' := [(1, .int x5), (0, .ref (za Z v0)), (2, .int v2)]) (dk kX5_allPrinted 15 rfl) rfl (by decide) rfl ?_
      obtain ⟨x6, ex6, h⟩ := lt_inv h
      refine g_iinc C (i := 2) (v := x6) (lv' := [(2, .int x6), (1, .int x5), (0, .ref (za Z v0))]) 2 (dk kX5_allPrinted 16 rfl) rfl (by rw [ex6]; rfl) (by decide) rfl ?_
      refine g_goto C (tgt := 4) (dk kX5_allPrinted 17 rfl) (by decide) ?_
      exact g_sub [2, 1, 0] rfl (ih x5 x6 y h he)
set_option maxRecDepth 100000 in
set_option maxHeartbeats 4000000 in
theorem t_X5_allPrinted {l : Launch} {Z : ZZ} {X : XX} (μ : Mm) (a0 : Nat) (r : Int32) (k0 : (zk Z a0).1 = 4) (h : f_X5_allPrinted (zk Z) μ a0 = some r) (C : Cx l Z false X cX5_allPrinted RX5 3 (some .int)) (E : Ex Z X 0 0 0 (some (.int r)) Z μ) : G Z X 3 0 0 0 [(0, .ref (za Z a0))] [] μ := by
  unfold f_X5_allPrinted at h
  refine g_iconst C (v := 0) (by decide) (dk kX5_allPrinted 0 rfl) ?_
  refine g_istore_n C (i := 1) (lv' := [(1, .int 0), (0, .ref (za Z a0))]) (dk kX5_allPrinted 1 rfl) rfl (by decide) rfl ?_
  refine g_iconst C (v := 0) (by decide) (dk kX5_allPrinted 2 rfl) ?_
  refine g_istore_n C (i := 2) (lv' := [(2, .int 0), (1, .int 0), (0, .ref (za Z a0))]) (dk kX5_allPrinted 3 rfl) rfl (by decide) rfl ?_
  obtain ⟨q7, eq7, h⟩ := bd_inv h
  refine g_sub [2, 1, 0] (lv' := [(0, .ref (za Z a0)), (1, .int 0), (2, .int 0)]) rfl ?_
  refine gl_X5_allPrinted_4 a0 k0 μ C E.2 FU 0 0 _ eq7 ?_
  obtain ⟨x8, ex8, h⟩ := lt_inv h
  rw [← ex8]
  refine g_iload_n C (i := 1) 0 rfl rfl (dk kX5_allPrinted 18 rfl) ?_
  cases h
  exact g_iret C E rfl rfl (Nat.le_refl 0) (Nat.le_refl 0) (dk kX5_allPrinted 19 rfl)
theorem ct_X5_allPrinted {l : Launch} {Z : ZZ} {μ : Mm} {a0 : Nat} {r : Int32} (k0 : (zk Z a0).1 = 4) (h : f_X5_allPrinted (zk Z) μ a0 = some r) : CtM l Z false yX5_allPrinted cX5_allPrinted 3 (some .int) 0 0 0 [.ref (za Z a0)] μ (some (.int r)) Z μ := ct_of rfl rfl (Nat.le_of_ble_eq_true rfl) (fun X C E => t_X5_allPrinted μ a0 r k0 h C E)

def qX5_allRented : List (Nat × Instr × Nat) := [(0, .iconst 0, 1), (1, .istore_n 1, 1), (2, .iconst 0, 1), (3, .istore_n 2, 1), (4, .iload_n 2, 1), (5, .aload_n 0, 1), (6, .getfield 62, 3), (9, .if_icmp .ge 21, 3), (12, .iload_n 1, 1), (13, .aload_n 0, 1), (14, .getfield 30, 3), (17, .iload_n 2, 1), (18, .aaload, 1), (19, .invokevirtual 135, 3), (22, .iadd, 1), (23, .istore_n 1, 1), (24, .iinc 2 1, 3), (27, .goto (-23), 3), (30, .iload_n 1, 1), (31, .ireturn, 1)]
theorem kX5_allRented : ∀ q ∈ qX5_allRented, decode cX5_allRented q.1 = .ok q.2 := by decide +kernel
def f_X5_allRented_l4 (K : Nat → Nat × Nat) (μ : Mm) (v0 : Nat) : Nat → Int32 → Int32 → Option (Int32)
  | 0, _, _ => none
  | n + 1, v1, v2 => if (μ.1 v0 6) ≤ v2 then (some v1) else (bd (rf K μ v0 5 9) fun b2 => gd (inb v2 (K b2).2) <| bd (rf K μ b2 (ix v2) 1) fun b4 => bd (f_X2_rented K μ b4) fun x6 => lt1 (α := Int32) (v1 + x6) fun x7 => lt1 (α := Int32) (v2 + 1) fun x8 => f_X5_allRented_l4 K μ v0 n x7 x8)
def f_X5_allRented (K : Nat → Nat × Nat) (μ : Mm) (a0 : Nat) : Option (Int32) :=
  bd (f_X5_allRented_l4 K μ a0 FU 0 0) fun q9 => lt1 q9 fun x10 => some x10
set_option maxRecDepth 100000 in
set_option maxHeartbeats 4000000 in
theorem gl_X5_allRented_4 {l : Launch} {Z : ZZ} {X : XX} (v0 : Nat) (k0 : (zk Z v0).1 = 4) (μ : Mm) (C : Cx l Z false X cX5_allRented RX5 3 (some .int)) (E : xR X = rmm 1 0 0) : ∀ (n : Nat) (v1 : Int32) (v2 : Int32) (y : Int32), f_X5_allRented_l4 (zk Z) μ v0 n v1 v2 = some y → G Z X 3 0 0 30 [(1, .int y)] [] (μ) → G Z X 3 0 0 4 [(0, .ref (za Z v0)), (1, .int v1), (2, .int v2)] [] μ := by
  intro n
  induction n with
  | zero => intro v1 v2 y h he; unfold f_X5_allRented_l4 at h; cases h
  | succ n ih =>
    intro v1 v2 y h he
    unfold f_X5_allRented_l4 at h
    refine g_iload_n C (i := 2) 2 rfl rfl (dk kX5_allRented 4 rfl) ?_
    refine g_aload_n C (i := 0) 0 rfl rfl (dk kX5_allRented 5 rfl) ?_
    refine gI_4_6 C k0 (C.w wd_1_180) (dk kX5_allRented 6 rfl) ?_
    refine g_icmp_ge C (tgt := 30) (dk kX5_allRented 7 rfl) (by decide) (fun c1 => ?_) (fun c1 => ?_)
    · replace h := ite_t h c1
      cases h
      exact g_sub [1] rfl he
    · replace h := ite_f h c1
      refine g_iload_n C (i := 1) 1 rfl rfl (dk kX5_allRented 8 rfl) ?_
      refine g_aload_n C (i := 0) 0 rfl rfl (dk kX5_allRented 9 rfl) ?_
      obtain ⟨b2, eb2, h⟩ := bd_inv h
      obtain ⟨rb2, kb2⟩ := rf_inv eb2
      refine gR_4_5 C k0 (C.w wd_1_178) rb2 (dk kX5_allRented 10 rfl) ?_
      refine g_iload_n C (i := 2) 2 rfl rfl (dk kX5_allRented 11 rfl) ?_
      obtain ⟨c3, h⟩ := gd_inv h
      obtain ⟨b4, eb4, h⟩ := bd_inv h
      obtain ⟨rb4, kb4⟩ := rf_inv eb4
      refine gA_9 C kb2 c3 rb4 (dk kX5_allRented 12 rfl) ?_
      obtain ⟨x6, eq5, h⟩ := bd_inv h
      refine g_callV C E (rest := [.int v1]) 0 (ct_X2_rented kb4 eq5) wd_3_56 mm_X2_rented ⟨rfl, by decide, by decide, by decide⟩ rfl (by decide) kb4 (by decide) rfl rfl (Nat.le_of_ble_eq_true rfl) (by decide) (dk kX5_allRented 13 rfl) ?_
      refine g_iadd C (dk kX5_allRented 14 rfl) ?_
      obtain ⟨x7, ex7, h⟩ := lt_inv h
      refine g_nmi ex7 ?_
      refine g_istore_n C (i := 1) (lv' := [(1, .int x7), (0, .ref (za Z v0)), (2, .int v2)]) (dk kX5_allRented 15 rfl) rfl (by decide) rfl ?_
      obtain ⟨x8, ex8, h⟩ := lt_inv h
      refine g_iinc C (i := 2) (v := x8) (lv' := [(2, .int x8), (1, .int x7), (0, .ref (za Z v0))]) 2 (dk kX5_allRented 16 rfl) rfl (by rw [ex8]; rfl) (by decide) rfl ?_
      refine g_goto C (tgt := 4) (dk kX5_allRented 17 rfl) (by decide) ?_
      exact g_sub [2, 1, 0] rfl (ih x7 x8 y h he)
set_option maxRecDepth 100000 in
set_option maxHeartbeats 4000000 in
theorem t_X5_allRented {l : Launch} {Z : ZZ} {X : XX} (μ : Mm) (a0 : Nat) (r : Int32) (k0 : (zk Z a0).1 = 4) (h : f_X5_allRented (zk Z) μ a0 = some r) (C : Cx l Z false X cX5_allRented RX5 3 (some .int)) (E : Ex Z X 1 0 0 (some (.int r)) Z μ) : G Z X 3 0 0 0 [(0, .ref (za Z a0))] [] μ := by
  unfold f_X5_allRented at h
  refine g_iconst C (v := 0) (by decide) (dk kX5_allRented 0 rfl) ?_
  refine g_istore_n C (i := 1) (lv' := [(1, .int 0), (0, .ref (za Z a0))]) (dk kX5_allRented 1 rfl) rfl (by decide) rfl ?_
  refine g_iconst C (v := 0) (by decide) (dk kX5_allRented 2 rfl) ?_
  refine g_istore_n C (i := 2) (lv' := [(2, .int 0), (1, .int 0), (0, .ref (za Z a0))]) (dk kX5_allRented 3 rfl) rfl (by decide) rfl ?_
  obtain ⟨q9, eq9, h⟩ := bd_inv h
  refine g_sub [2, 1, 0] (lv' := [(0, .ref (za Z a0)), (1, .int 0), (2, .int 0)]) rfl ?_
  refine gl_X5_allRented_4 a0 k0 μ C E.2 FU 0 0 _ eq9 ?_
  obtain ⟨x10, ex10, h⟩ := lt_inv h
  rw [← ex10]
  refine g_iload_n C (i := 1) 0 rfl rfl (dk kX5_allRented 18 rfl) ?_
  cases h
  exact g_iret C E rfl rfl (Nat.le_refl 0) (Nat.le_refl 0) (dk kX5_allRented 19 rfl)
theorem ct_X5_allRented {l : Launch} {Z : ZZ} {μ : Mm} {a0 : Nat} {r : Int32} (k0 : (zk Z a0).1 = 4) (h : f_X5_allRented (zk Z) μ a0 = some r) : CtM l Z false yX5_allRented cX5_allRented 3 (some .int) 1 0 0 [.ref (za Z a0)] μ (some (.int r)) Z μ := ct_of rfl rfl (Nat.le_of_ble_eq_true rfl) (fun X C E => t_X5_allRented μ a0 r k0 h C E)

def qX5_allWear : List (Nat × Instr × Nat) := [(0, .aload_n 0, 1), (1, .getfield 12, 3), (4, .iconst 0, 1), (5, .aload_n 0, 1), (6, .getfield 12, 3), (9, .getfield 68, 3), (12, .iconst 1, 1), (13, .isub, 1), (14, .invokevirtual 206, 3), (17, .ireturn, 1)]
theorem kX5_allWear : ∀ q ∈ qX5_allWear, decode cX5_allWear q.1 = .ok q.2 := by decide +kernel
def f_X5_allWear (K : Nat → Nat × Nat) (μ : Mm) (a0 : Nat) : Option (Int32) :=
  bd (rf K μ a0 0 2) fun b1 => bd (rf K μ a0 0 2) fun b2 => bd (f_X3_wearSum K μ b1 0 ((μ.1 b2 0) - 1)) fun x4 => some x4
set_option maxRecDepth 100000 in
set_option maxHeartbeats 4000000 in
theorem t_X5_allWear {l : Launch} {Z : ZZ} {X : XX} (μ : Mm) (a0 : Nat) (r : Int32) (k0 : (zk Z a0).1 = 4) (h : f_X5_allWear (zk Z) μ a0 = some r) (C : Cx l Z false X cX5_allWear RX5 1 (some .int)) (E : Ex Z X 1 0 0 (some (.int r)) Z μ) : G Z X 1 0 0 0 [(0, .ref (za Z a0))] [] μ := by
  unfold f_X5_allWear at h
  refine g_aload_n C (i := 0) 0 rfl rfl (dk kX5_allWear 0 rfl) ?_
  obtain ⟨b1, eb1, h⟩ := bd_inv h
  obtain ⟨rb1, kb1⟩ := rf_inv eb1
  refine gR_4_0 C k0 (C.w wd_1_170) rb1 (dk kX5_allWear 1 rfl) ?_
  refine g_iconst C (v := 0) (by decide) (dk kX5_allWear 2 rfl) ?_
  refine g_aload_n C (i := 0) 0 rfl rfl (dk kX5_allWear 3 rfl) ?_
  obtain ⟨b2, eb2, h⟩ := bd_inv h
  obtain ⟨rb2, kb2⟩ := rf_inv eb2
  refine gR_4_0 C k0 (C.w wd_1_170) rb2 (dk kX5_allWear 4 rfl) ?_
  refine gIN_2_0 C kb2 (nf_3 C) (dk kX5_allWear 5 rfl) ?_
  refine g_iconst C (v := 1) (by decide) (dk kX5_allWear 6 rfl) ?_
  refine g_isub C (dk kX5_allWear 7 rfl) ?_
  obtain ⟨x4, eq3, h⟩ := bd_inv h
  refine g_callV C E.2 (rest := []) 2 (ct_X3_wearSum kb1 eq3) wd_2_229 mm_X3_wearSum ⟨rfl, by decide, by decide, by decide⟩ rfl (by decide) kb1 (by decide) rfl rfl (Nat.le_of_ble_eq_true rfl) (by decide) (dk kX5_allWear 8 rfl) ?_
  cases h
  exact g_iret C E rfl rfl (Nat.le_refl 0) (Nat.le_refl 0) (dk kX5_allWear 9 rfl)
theorem ct_X5_allWear {l : Launch} {Z : ZZ} {μ : Mm} {a0 : Nat} {r : Int32} (k0 : (zk Z a0).1 = 4) (h : f_X5_allWear (zk Z) μ a0 = some r) : CtM l Z false yX5_allWear cX5_allWear 1 (some .int) 1 0 0 [.ref (za Z a0)] μ (some (.int r)) Z μ := ct_of rfl rfl (Nat.le_of_ble_eq_true rfl) (fun X C E => t_X5_allWear μ a0 r k0 h C E)

def qX5_othersRentOneOf : List (Nat × Instr × Nat) := [(0, .iconst 0, 1), (1, .istore 4, 2), (3, .iload 4, 2), (5, .aload_n 0, 1), (6, .getfield 62, 3), (9, .if_icmp .ge 32, 3), (12, .iload 4, 2), (14, .iload_n 1, 1), (15, .if_icmp .eq 20, 3), (18, .aload_n 0, 1), (19, .getfield 30, 3), (22, .iload 4, 2), (24, .aaload, 1), (25, .iload_n 2, 1), (26, .iload_n 3, 1), (27, .invokevirtual 209, 3), (30, .ifCond .eq 5, 3), (33, .iconst 1, 1), (34, .ireturn, 1), (35, .iinc 4 1, 3), (38, .goto (-35), 3), (41, .iconst 0, 1), (42, .ireturn, 1)]
theorem kX5_othersRentOneOf : ∀ q ∈ qX5_othersRentOneOf, decode cX5_othersRentOneOf q.1 = .ok q.2 := by decide +kernel
def f_X5_othersRentOneOf_l3 (K : Nat → Nat × Nat) (μ : Mm) (v0 : Nat) (v1 : Int32) (v2 : Int32) (v3 : Int32) : Nat → Int32 → Option ((Int32) ⊕ (Unit))
  | 0, _ => none
  | n + 1, v4 => if (μ.1 v0 6) ≤ v4 then (some (.inr ())) else (if v4 = v1 then (lt1 (α := Int32) (v4 + 1) fun x3 => f_X5_othersRentOneOf_l3 K μ v0 v1 v2 v3 n x3) else (bd (rf K μ v0 5 9) fun b4 => gd (inb v4 (K b4).2) <| bd (rf K μ b4 (ix v4) 1) fun b6 => bd (f_X2_rentsOneOf K μ b6 v2 v3) fun x8 => if x8 = 0 then (lt1 (α := Int32) (v4 + 1) fun x10 => f_X5_othersRentOneOf_l3 K μ v0 v1 v2 v3 n x10) else (some (.inl 1))))
def f_X5_othersRentOneOf (K : Nat → Nat × Nat) (μ : Mm) (a0 : Nat) (a1 : Int32) (a2 : Int32) (a3 : Int32) : Option (Int32) :=
  bd (f_X5_othersRentOneOf_l3 K μ a0 a1 a2 a3 FU 0) fun q11 => (match q11 with | .inl r => some r | .inr q12 => some 0)
set_option maxRecDepth 100000 in
set_option maxHeartbeats 4000000 in
theorem gl_X5_othersRentOneOf_3 {l : Launch} {Z : ZZ} {X : XX} (v0 : Nat) (v1 : Int32) (v2 : Int32) (v3 : Int32) (k0 : (zk Z v0).1 = 4) (μ : Mm) (C : Cx l Z false X cX5_othersRentOneOf RX5 5 (some .boolean)) (E : xR X = rmm 1 0 0) : ∀ (n : Nat) (v4 : Int32) (y : (Int32) ⊕ (Unit)), f_X5_othersRentOneOf_l3 (zk Z) μ v0 v1 v2 v3 n v4 = some y → (∀ r, y = .inl r → Ex Z X 1 0 0 (some (.int r)) Z μ) → (∀ y9, y = .inr y9 → G Z X 5 0 0 41 [] [] (μ)) → G Z X 5 0 0 3 [(0, .ref (za Z v0)), (1, .int v1), (2, .int v2), (3, .int v3), (4, .int v4)] [] μ := by
  intro n
  induction n with
  | zero => intro v4 y h hr he; unfold f_X5_othersRentOneOf_l3 at h; cases h
  | succ n ih =>
    intro v4 y h hr he
    unfold f_X5_othersRentOneOf_l3 at h
    refine g_iload C (i := 4) 4 rfl (dk kX5_othersRentOneOf 2 rfl) ?_
    refine g_aload_n C (i := 0) 0 rfl rfl (dk kX5_othersRentOneOf 3 rfl) ?_
    refine gI_4_6 C k0 (C.w wd_1_180) (dk kX5_othersRentOneOf 4 rfl) ?_
    refine g_icmp_ge C (tgt := 41) (dk kX5_othersRentOneOf 5 rfl) (by decide) (fun c1 => ?_) (fun c1 => ?_)
    · replace h := ite_t h c1
      cases h
      exact g_sub [] rfl (he _ rfl)
    · replace h := ite_f h c1
      refine g_iload C (i := 4) 4 rfl (dk kX5_othersRentOneOf 6 rfl) ?_
      refine g_iload_n C (i := 1) 1 rfl rfl (dk kX5_othersRentOneOf 7 rfl) ?_
      refine g_icmp_eq C (tgt := 35) (dk kX5_othersRentOneOf 8 rfl) (by decide) (fun c2 => ?_) (fun c2 => ?_)
      · replace h := ite_t h c2
        obtain ⟨x3, ex3, h⟩ := lt_inv h
        refine g_iinc C (i := 4) (v := x3) (lv' := [(4, .int x3), (0, .ref (za Z v0)), (1, .int v1), (2, .int v2), (3, .int v3)]) 4 (dk kX5_othersRentOneOf 19 rfl) rfl (by rw [ex3]; rfl) (by decide) rfl ?_
        refine g_goto C (tgt := 3) (dk kX5_othersRentOneOf 20 rfl) (by decide) ?_
        exact g_sub [1, 2, 3, 4, 0] rfl (ih x3 y h hr he)
      · replace h := ite_f h c2
        refine g_aload_n C (i := 0) 0 rfl rfl (dk kX5_othersRentOneOf 9 rfl) ?_
        obtain ⟨b4, eb4, h⟩ := bd_inv h
        obtain ⟨rb4, kb4⟩ := rf_inv eb4
        refine gR_4_5 C k0 (C.w wd_1_178) rb4 (dk kX5_othersRentOneOf 10 rfl) ?_
        refine g_iload C (i := 4) 4 rfl (dk kX5_othersRentOneOf 11 rfl) ?_
        obtain ⟨c5, h⟩ := gd_inv h
        obtain ⟨b6, eb6, h⟩ := bd_inv h
        obtain ⟨rb6, kb6⟩ := rf_inv eb6
        refine gA_9 C kb4 c5 rb6 (dk kX5_othersRentOneOf 12 rfl) ?_
        refine g_iload_n C (i := 2) 2 rfl rfl (dk kX5_othersRentOneOf 13 rfl) ?_
        refine g_iload_n C (i := 3) 3 rfl rfl (dk kX5_othersRentOneOf 14 rfl) ?_
        obtain ⟨x8, eq7, h⟩ := bd_inv h
        refine g_callV C E (rest := []) 2 (ct_X2_rentsOneOf kb6 eq7) wd_2_159 mm_X2_rentsOneOf ⟨rfl, by decide, by decide, by decide⟩ rfl (by decide) kb6 (by decide) rfl rfl (Nat.le_of_ble_eq_true rfl) (by decide) (dk kX5_othersRentOneOf 15 rfl) ?_
        refine g_if_eq C (tgt := 35) (dk kX5_othersRentOneOf 16 rfl) (by decide) (fun c9 => ?_) (fun c9 => ?_)
        · replace h := ite_t h c9
          obtain ⟨x10, ex10, h⟩ := lt_inv h
          refine g_iinc C (i := 4) (v := x10) (lv' := [(4, .int x10), (0, .ref (za Z v0)), (1, .int v1), (2, .int v2), (3, .int v3)]) 4 (dk kX5_othersRentOneOf 19 rfl) rfl (by rw [ex10]; rfl) (by decide) rfl ?_
          refine g_goto C (tgt := 3) (dk kX5_othersRentOneOf 20 rfl) (by decide) ?_
          exact g_sub [1, 2, 3, 4, 0] rfl (ih x10 y h hr he)
        · replace h := ite_f h c9
          refine g_iconst C (v := 1) (by decide) (dk kX5_othersRentOneOf 17 rfl) ?_
          cases h
          have E := hr _ rfl
          exact g_iret C E rfl rfl (Nat.le_refl 0) (Nat.le_refl 0) (dk kX5_othersRentOneOf 18 rfl)
set_option maxRecDepth 100000 in
set_option maxHeartbeats 4000000 in
theorem t_X5_othersRentOneOf {l : Launch} {Z : ZZ} {X : XX} (μ : Mm) (a0 : Nat) (a1 : Int32) (a2 : Int32) (a3 : Int32) (r : Int32) (k0 : (zk Z a0).1 = 4) (h : f_X5_othersRentOneOf (zk Z) μ a0 a1 a2 a3 = some r) (C : Cx l Z false X cX5_othersRentOneOf RX5 5 (some .boolean)) (E : Ex Z X 1 0 0 (some (.int r)) Z μ) : G Z X 5 0 0 0 [(0, .ref (za Z a0)), (1, .int a1), (2, .int a2), (3, .int a3)] [] μ := by
  unfold f_X5_othersRentOneOf at h
  refine g_iconst C (v := 0) (by decide) (dk kX5_othersRentOneOf 0 rfl) ?_
  refine g_istore C (i := 4) (lv' := [(4, .int 0), (0, .ref (za Z a0)), (1, .int a1), (2, .int a2), (3, .int a3)]) (dk kX5_othersRentOneOf 1 rfl) (by decide) rfl ?_
  obtain ⟨q11, eq11, h⟩ := bd_inv h
  refine g_sub [1, 2, 3, 4, 0] (lv' := [(0, .ref (za Z a0)), (1, .int a1), (2, .int a2), (3, .int a3), (4, .int 0)]) rfl ?_
  cases q11 with
  | inl r =>
    cases h
    exact gl_X5_othersRentOneOf_3 a0 a1 a2 a3 k0 μ C E.2 FU 0 _ eq11 (fun r hr9 => by cases hr9; exact E) (fun y hy9 => by cases hy9)
  | inr q12 =>
    refine gl_X5_othersRentOneOf_3 a0 a1 a2 a3 k0 μ C E.2 FU 0 _ eq11 (fun r hr9 => by cases hr9) (fun y hy9 => ?_)
    cases hy9
    refine g_iconst C (v := 0) (by decide) (dk kX5_othersRentOneOf 21 rfl) ?_
    cases h
    exact g_iret C E rfl rfl (Nat.le_refl 0) (Nat.le_refl 0) (dk kX5_othersRentOneOf 22 rfl)
theorem ct_X5_othersRentOneOf {l : Launch} {Z : ZZ} {μ : Mm} {a0 : Nat} {a1 : Int32} {a2 : Int32} {a3 : Int32} {r : Int32} (k0 : (zk Z a0).1 = 4) (h : f_X5_othersRentOneOf (zk Z) μ a0 a1 a2 a3 = some r) : CtM l Z false yX5_othersRentOneOf cX5_othersRentOneOf 5 (some .boolean) 1 0 0 [.ref (za Z a0), .int a1, .int a2, .int a3] μ (some (.int r)) Z μ := ct_of rfl rfl (Nat.le_of_ble_eq_true rfl) (fun X C E => t_X5_othersRentOneOf μ a0 a1 a2 a3 r k0 h C E)

def qX5_reasonAt : List (Nat × Instr × Nat) := [(0, .iload_n 3, 1), (1, .aload_n 0, 1), (2, .getfield 24, 3), (5, .iload_n 2, 1), (6, .aaload, 1), (7, .getfield 88, 3), (10, .iadd, 1), (11, .iconst 1, 1), (12, .isub, 1), (13, .istore 4, 2), (15, .iload 4, 2), (17, .aload_n 0, 1), (18, .getfield 12, 3), (21, .getfield 68, 3), (24, .if_icmp .lt 5, 3), (27, .iconst 1, 1), (28, .ireturn, 1), (29, .aload_n 0, 1), (30, .iload_n 1, 1), (31, .iload_n 3, 1), (32, .iload 4, 2), (34, .invokevirtual 122, 3), (37, .ifCond .eq 5, 3), (40, .iconst 2, 1), (41, .ireturn, 1), (42, .aload_n 0, 1), (43, .getfield 24, 3), (46, .iload_n 2, 1), (47, .aaload, 1), (48, .invokevirtual 213, 3), (51, .ifCond .ne 7, 3), (54, .iconst 3, 1), (55, .goto 4, 3), (58, .iconst 0, 1), (59, .ireturn, 1)]
theorem kX5_reasonAt : ∀ q ∈ qX5_reasonAt, decode cX5_reasonAt q.1 = .ok q.2 := by decide +kernel
def f_X5_reasonAt (K : Nat → Nat × Nat) (μ : Mm) (a0 : Nat) (a1 : Int32) (a2 : Int32) (a3 : Int32) : Option (Int32) :=
  bd (rf K μ a0 3 10) fun b1 => gd (inb a2 (K b1).2) <| bd (rf K μ b1 (ix a2) 3) fun b3 => lt1 (α := Int32) ((a3 + (μ.1 b3 0)) - 1) fun x4 => bd (rf K μ a0 0 2) fun b5 => if x4 < (μ.1 b5 0) then (bd (f_X5_othersRentOneOf K μ a0 a1 a3 x4) fun x8 => if x8 = 0 then (bd (rf K μ a0 3 10) fun b10 => gd (inb a2 (K b10).2) <| bd (rf K μ b10 (ix a2) 3) fun b12 => bd (f_X4_blackCells K μ b12) fun x14 => lt1 (α := Int32) (if x14 = 0 then 3 else 0) fun x15 => some x15) else (some 2)) else (some 1)
set_option maxRecDepth 100000 in
set_option maxHeartbeats 4000000 in
theorem t_X5_reasonAt {l : Launch} {Z : ZZ} {X : XX} (μ : Mm) (a0 : Nat) (a1 : Int32) (a2 : Int32) (a3 : Int32) (r : Int32) (k0 : (zk Z a0).1 = 4) (h : f_X5_reasonAt (zk Z) μ a0 a1 a2 a3 = some r) (C : Cx l Z false X cX5_reasonAt RX5 5 (some .int)) (E : Ex Z X 2 0 0 (some (.int r)) Z μ) : G Z X 5 0 0 0 [(0, .ref (za Z a0)), (1, .int a1), (2, .int a2), (3, .int a3)] [] μ := by
  unfold f_X5_reasonAt at h
  refine g_iload_n C (i := 3) 3 rfl rfl (dk kX5_reasonAt 0 rfl) ?_
  refine g_aload_n C (i := 0) 0 rfl rfl (dk kX5_reasonAt 1 rfl) ?_
  obtain ⟨b1, eb1, h⟩ := bd_inv h
  obtain ⟨rb1, kb1⟩ := rf_inv eb1
  refine gR_4_3 C k0 (C.w wd_1_174) rb1 (dk kX5_reasonAt 2 rfl) ?_
  refine g_iload_n C (i := 2) 2 rfl rfl (dk kX5_reasonAt 3 rfl) ?_
  obtain ⟨c2, h⟩ := gd_inv h
  obtain ⟨b3, eb3, h⟩ := bd_inv h
  obtain ⟨rb3, kb3⟩ := rf_inv eb3
  refine gA_10 C kb1 c2 rb3 (dk kX5_reasonAt 4 rfl) ?_
  refine gIN_3_0 C kb3 (nf_10 C) (dk kX5_reasonAt 5 rfl) ?_
  refine g_iadd C (dk kX5_reasonAt 6 rfl) ?_
  refine g_iconst C (v := 1) (by decide) (dk kX5_reasonAt 7 rfl) ?_
  refine g_isub C (dk kX5_reasonAt 8 rfl) ?_
  obtain ⟨x4, ex4, h⟩ := lt_inv h
  refine g_nmi ex4 ?_
  refine g_istore C (i := 4) (lv' := [(4, .int x4), (0, .ref (za Z a0)), (1, .int a1), (2, .int a2), (3, .int a3)]) (dk kX5_reasonAt 9 rfl) (by decide) rfl ?_
  refine g_iload C (i := 4) 0 rfl (dk kX5_reasonAt 10 rfl) ?_
  refine g_aload_n C (i := 0) 1 rfl rfl (dk kX5_reasonAt 11 rfl) ?_
  obtain ⟨b5, eb5, h⟩ := bd_inv h
  obtain ⟨rb5, kb5⟩ := rf_inv eb5
  refine gR_4_0 C k0 (C.w wd_1_170) rb5 (dk kX5_reasonAt 12 rfl) ?_
  refine gIN_2_0 C kb5 (nf_3 C) (dk kX5_reasonAt 13 rfl) ?_
  refine g_icmp_lt C (tgt := 29) (dk kX5_reasonAt 14 rfl) (by decide) (fun c6 => ?_) (fun c6 => ?_)
  · replace h := ite_t h c6
    refine g_aload_n C (i := 0) 1 rfl rfl (dk kX5_reasonAt 17 rfl) ?_
    refine g_iload_n C (i := 1) 2 rfl rfl (dk kX5_reasonAt 18 rfl) ?_
    refine g_iload_n C (i := 3) 4 rfl rfl (dk kX5_reasonAt 19 rfl) ?_
    refine g_iload C (i := 4) 0 rfl (dk kX5_reasonAt 20 rfl) ?_
    obtain ⟨x8, eq7, h⟩ := bd_inv h
    refine g_callV C E.2 (rest := []) 3 (ct_X5_othersRentOneOf k0 eq7) wd_2_155 mm_X5_othersRentOneOf ⟨rfl, by decide, by decide, by decide⟩ rfl (by decide) k0 (by decide) rfl rfl (Nat.le_of_ble_eq_true rfl) (by decide) (dk kX5_reasonAt 21 rfl) ?_
    refine g_if_eq C (tgt := 42) (dk kX5_reasonAt 22 rfl) (by decide) (fun c9 => ?_) (fun c9 => ?_)
    · replace h := ite_t h c9
      refine g_aload_n C (i := 0) 1 rfl rfl (dk kX5_reasonAt 25 rfl) ?_
      obtain ⟨b10, eb10, h⟩ := bd_inv h
      obtain ⟨rb10, kb10⟩ := rf_inv eb10
      refine gR_4_3 C k0 (C.w wd_1_174) rb10 (dk kX5_reasonAt 26 rfl) ?_
      refine g_iload_n C (i := 2) 3 rfl rfl (dk kX5_reasonAt 27 rfl) ?_
      obtain ⟨c11, h⟩ := gd_inv h
      obtain ⟨b12, eb12, h⟩ := bd_inv h
      obtain ⟨rb12, kb12⟩ := rf_inv eb12
      refine gA_10 C kb10 c11 rb12 (dk kX5_reasonAt 28 rfl) ?_
      obtain ⟨x14, eq13, h⟩ := bd_inv h
      refine g_callV C E.2 (rest := []) 0 (ct_X4_blackCells kb12 eq13) wd_2_175 mm_X4_blackCells ⟨rfl, by decide, by decide, by decide⟩ rfl (by decide) kb12 (by decide) rfl rfl (Nat.le_of_ble_eq_true rfl) (by decide) (dk kX5_reasonAt 29 rfl) ?_
      obtain ⟨x15, ex15, h⟩ := lt_inv h
      have kj16 : G Z X 5 0 0 59 [(4, .int x4), (0, .ref (za Z a0)), (1, .int a1), (2, .int a2), (3, .int a3)] [.int x15] μ := by
        cases h
        exact g_iret C E rfl rfl (Nat.le_refl 0) (Nat.le_refl 0) (dk kX5_reasonAt 34 rfl)
      clear h
      refine g_if_ne C (tgt := 58) (dk kX5_reasonAt 30 rfl) (by decide) (fun c17 => ?_) (fun c17 => ?_)
      · refine g_iconst C (v := 0) (by decide) (dk kX5_reasonAt 33 rfl) ?_
        exact g_nmi (by rw [ex15, if_neg c17]) kj16
      · refine g_iconst C (v := 3) (by decide) (dk kX5_reasonAt 31 rfl) ?_
        refine g_goto C (tgt := 59) (dk kX5_reasonAt 32 rfl) (by decide) ?_
        exact g_nmi (by rw [ex15, if_pos c17]) kj16
    · replace h := ite_f h c9
      refine g_iconst C (v := 2) (by decide) (dk kX5_reasonAt 23 rfl) ?_
      cases h
      exact g_iret C E rfl rfl (Nat.le_refl 0) (Nat.le_refl 0) (dk kX5_reasonAt 24 rfl)
  · replace h := ite_f h c6
    refine g_iconst C (v := 1) (by decide) (dk kX5_reasonAt 15 rfl) ?_
    cases h
    exact g_iret C E rfl rfl (Nat.le_refl 0) (Nat.le_refl 0) (dk kX5_reasonAt 16 rfl)
theorem ct_X5_reasonAt {l : Launch} {Z : ZZ} {μ : Mm} {a0 : Nat} {a1 : Int32} {a2 : Int32} {a3 : Int32} {r : Int32} (k0 : (zk Z a0).1 = 4) (h : f_X5_reasonAt (zk Z) μ a0 a1 a2 a3 = some r) : CtM l Z false yX5_reasonAt cX5_reasonAt 5 (some .int) 2 0 0 [.ref (za Z a0), .int a1, .int a2, .int a3] μ (some (.int r)) Z μ := ct_of rfl rfl (Nat.le_of_ble_eq_true rfl) (fun X C E => t_X5_reasonAt μ a0 a1 a2 a3 r k0 h C E)

def qX5_unreadableAt : List (Nat × Instr × Nat) := [(0, .aload_n 0, 1), (1, .getfield 34, 3), (4, .aload_n 0, 1), (5, .getfield 12, 3), (8, .iload_n 2, 1), (9, .aload_n 0, 1), (10, .getfield 24, 3), (13, .iload_n 1, 1), (14, .aaload, 1), (15, .getfield 88, 3), (18, .invokevirtual 224, 3), (21, .aload_n 0, 1), (22, .getfield 34, 3), (25, .aload_n 0, 1), (26, .getfield 24, 3), (29, .iload_n 1, 1), (30, .aaload, 1), (31, .iconst 0, 1), (32, .aload_n 0, 1), (33, .getfield 18, 3), (36, .invokevirtual 148, 3), (39, .ireturn, 1)]
theorem kX5_unreadableAt : ∀ q ∈ qX5_unreadableAt, decode cX5_unreadableAt q.1 = .ok q.2 := by decide +kernel
def f_X5_unreadableAt (K : Nat → Nat × Nat) (μ : Mm) (a0 : Nat) (a1 : Int32) (a2 : Int32) : Option (Int32 × Mm) :=
  bd (rf K μ a0 1 2) fun b1 => bd (rf K μ a0 0 2) fun b2 => bd (rf K μ a0 3 10) fun b3 => gd (inb a1 (K b3).2) <| bd (rf K μ b3 (ix a1) 3) fun b5 => bd (f_X3_takePart K μ b1 b2 a2 (μ.1 b5 0)) fun μ7 => bd (rf K μ7 a0 1 2) fun b8 => bd (rf K μ7 a0 3 10) fun b9 => gd (inb a1 (K b9).2) <| bd (rf K μ7 b9 (ix a1) 3) fun b11 => bd (rf K μ7 a0 2 8) fun b12 => bd (f_X3_printRows K μ7 b8 b11 0 b12) fun q13 => lt1 q13.1 fun x15 => lt1 q13.2 fun μ14 => some (x15, μ14)
set_option maxRecDepth 100000 in
set_option maxHeartbeats 4000000 in
theorem t_X5_unreadableAt {l : Launch} {Z : ZZ} {X : XX} (μ : Mm) (a0 : Nat) (a1 : Int32) (a2 : Int32) (r : Int32) (μ' : Mm) (k0 : (zk Z a0).1 = 4) (h : f_X5_unreadableAt (zk Z) μ a0 a1 a2 = some (r, μ')) (C : Cx l Z false X cX5_unreadableAt RX5 3 (some .int)) (E : Ex Z X 2 0 0 (some (.int r)) Z μ') : G Z X 3 0 0 0 [(0, .ref (za Z a0)), (1, .int a1), (2, .int a2)] [] μ := by
  unfold f_X5_unreadableAt at h
  refine g_aload_n C (i := 0) 0 rfl rfl (dk kX5_unreadableAt 0 rfl) ?_
  obtain ⟨b1, eb1, h⟩ := bd_inv h
  obtain ⟨rb1, kb1⟩ := rf_inv eb1
  refine gR_4_1 C k0 (C.w wd_1_172) rb1 (dk kX5_unreadableAt 1 rfl) ?_
  refine g_aload_n C (i := 0) 0 rfl rfl (dk kX5_unreadableAt 2 rfl) ?_
  obtain ⟨b2, eb2, h⟩ := bd_inv h
  obtain ⟨rb2, kb2⟩ := rf_inv eb2
  refine gR_4_0 C k0 (C.w wd_1_170) rb2 (dk kX5_unreadableAt 3 rfl) ?_
  refine g_iload_n C (i := 2) 2 rfl rfl (dk kX5_unreadableAt 4 rfl) ?_
  refine g_aload_n C (i := 0) 0 rfl rfl (dk kX5_unreadableAt 5 rfl) ?_
  obtain ⟨b3, eb3, h⟩ := bd_inv h
  obtain ⟨rb3, kb3⟩ := rf_inv eb3
  refine gR_4_3 C k0 (C.w wd_1_174) rb3 (dk kX5_unreadableAt 6 rfl) ?_
  refine g_iload_n C (i := 1) 1 rfl rfl (dk kX5_unreadableAt 7 rfl) ?_
  obtain ⟨c4, h⟩ := gd_inv h
  obtain ⟨b5, eb5, h⟩ := bd_inv h
  obtain ⟨rb5, kb5⟩ := rf_inv eb5
  refine gA_10 C kb3 c4 rb5 (dk kX5_unreadableAt 8 rfl) ?_
  refine gIN_3_0 C kb5 (nf_10 C) (dk kX5_unreadableAt 9 rfl) ?_
  obtain ⟨μ7, eq6, h⟩ := bd_inv h
  refine g_callV C E.2 (rest := []) 3 (ct_X3_takePart kb1 kb2 eq6) wd_2_201 mm_X3_takePart ⟨rfl, by decide, by decide, by decide⟩ rfl (by decide) kb1 (by decide) rfl rfl (Nat.le_of_ble_eq_true rfl) (by decide) (dk kX5_unreadableAt 10 rfl) ?_
  refine g_aload_n C (i := 0) 0 rfl rfl (dk kX5_unreadableAt 11 rfl) ?_
  obtain ⟨b8, eb8, h⟩ := bd_inv h
  obtain ⟨rb8, kb8⟩ := rf_inv eb8
  refine gR_4_1 C k0 (C.w wd_1_172) rb8 (dk kX5_unreadableAt 12 rfl) ?_
  refine g_aload_n C (i := 0) 0 rfl rfl (dk kX5_unreadableAt 13 rfl) ?_
  obtain ⟨b9, eb9, h⟩ := bd_inv h
  obtain ⟨rb9, kb9⟩ := rf_inv eb9
  refine gR_4_3 C k0 (C.w wd_1_174) rb9 (dk kX5_unreadableAt 14 rfl) ?_
  refine g_iload_n C (i := 1) 1 rfl rfl (dk kX5_unreadableAt 15 rfl) ?_
  obtain ⟨c10, h⟩ := gd_inv h
  obtain ⟨b11, eb11, h⟩ := bd_inv h
  obtain ⟨rb11, kb11⟩ := rf_inv eb11
  refine gA_10 C kb9 c10 rb11 (dk kX5_unreadableAt 16 rfl) ?_
  refine g_iconst C (v := 0) (by decide) (dk kX5_unreadableAt 17 rfl) ?_
  refine g_aload_n C (i := 0) 0 rfl rfl (dk kX5_unreadableAt 18 rfl) ?_
  obtain ⟨b12, eb12, h⟩ := bd_inv h
  obtain ⟨rb12, kb12⟩ := rf_inv eb12
  refine gR_4_2 C k0 (C.w wd_1_173) rb12 (dk kX5_unreadableAt 19 rfl) ?_
  obtain ⟨q13, eq13, h⟩ := bd_inv h
  obtain ⟨x15, ex15, h⟩ := lt_inv h
  obtain ⟨μ14, eμ14, h⟩ := lt_inv h
  rw [show q13 = (x15, μ14) from by rw [ex15, eμ14]] at eq13
  refine g_callV C E.2 (rest := []) 3 (ct_X3_printRows kb8 kb11 kb12 eq13) wd_2_205 mm_X3_printRows ⟨rfl, by decide, by decide, by decide⟩ rfl (by decide) kb8 (by decide) rfl rfl (Nat.le_of_ble_eq_true rfl) (by decide) (dk kX5_unreadableAt 20 rfl) ?_
  cases h
  exact g_iret C E rfl rfl (Nat.le_refl 0) (Nat.le_refl 0) (dk kX5_unreadableAt 21 rfl)
theorem ct_X5_unreadableAt {l : Launch} {Z : ZZ} {μ : Mm} {a0 : Nat} {a1 : Int32} {a2 : Int32} {r : Int32} {μ' : Mm} (k0 : (zk Z a0).1 = 4) (h : f_X5_unreadableAt (zk Z) μ a0 a1 a2 = some (r, μ')) : CtM l Z false yX5_unreadableAt cX5_unreadableAt 3 (some .int) 2 0 0 [.ref (za Z a0), .int a1, .int a2] μ (some (.int r)) Z μ' := ct_of rfl rfl (Nat.le_of_ble_eq_true rfl) (fun X C E => t_X5_unreadableAt μ a0 a1 a2 r μ' k0 h C E)

def qX5_priceAt : List (Nat × Instr × Nat) := [(0, .aload_n 0, 1), (1, .getfield 24, 3), (4, .iload_n 2, 1), (5, .aaload, 1), (6, .astore 4, 2), (8, .iload_n 3, 1), (9, .aload 4, 2), (11, .getfield 88, 3), (14, .iadd, 1), (15, .iconst 1, 1), (16, .isub, 1), (17, .istore 5, 2), (19, .aload 4, 2), (21, .invokevirtual 213, 3), (24, .aload 4, 2), (26, .getfield 91, 3), (29, .imul, 1), (30, .aload_n 0, 1), (31, .getfield 18, 3), (34, .bipush 6, 2), (36, .iaload, 1), (37, .imul, 1), (38, .istore 6, 2), (40, .aload_n 0, 1), (41, .getfield 30, 3), (44, .iload_n 1, 1), (45, .aaload, 1), (46, .iload_n 3, 1), (47, .iload 5, 2), (49, .invokevirtual 216, 3), (52, .ifCond .eq 12, 3), (55, .aload 4, 2), (57, .getfield 88, 3), (60, .iconst 1, 1), (61, .if_icmp .ge 6, 3), (64, .iload 6, 2), (66, .ireturn, 1), (67, .sipush 900, 3), (70, .aload_n 0, 1), (71, .getfield 12, 3), (74, .iload_n 3, 1), (75, .iload 5, 2), (77, .invokevirtual 206, 3), (80, .aload 4, 2), (82, .getfield 88, 3), (85, .idiv, 1), (86, .invokestatic 219, 3), (89, .istore 7, 2), (91, .iload 6, 2), (93, .sipush 1000, 3), (96, .iload 7, 2), (98, .isub, 1), (99, .imul, 1), (100, .sipush 1000, 3), (103, .idiv, 1), (104, .ireturn, 1)]
theorem kX5_priceAt : ∀ q ∈ qX5_priceAt, decode cX5_priceAt q.1 = .ok q.2 := by decide +kernel
def f_X5_priceAt (K : Nat → Nat × Nat) (μ : Mm) (a0 : Nat) (a1 : Int32) (a2 : Int32) (a3 : Int32) : Option (Int32) :=
  bd (rf K μ a0 3 10) fun b1 => gd (inb a2 (K b1).2) <| bd (rf K μ b1 (ix a2) 3) fun b3 => lt1 (α := Int32) ((a3 + (μ.1 b3 0)) - 1) fun x4 => bd (f_X4_blackCells K μ b3) fun x6 => bd (rf K μ a0 2 8) fun b7 => gd (inb 6 (K b7).2) <| lt1 (α := Int32) ((x6 * (μ.1 b3 1)) * (μ.1 b7 (ix 6))) fun x9 => bd (rf K μ a0 5 9) fun b10 => gd (inb a1 (K b10).2) <| bd (rf K μ b10 (ix a1) 1) fun b12 => bd (f_X2_rentsAllOf K μ b12 a3 x4) fun x14 => if x14 = 0 then (some x9) else (if 1 ≤ (μ.1 b3 0) then (bd (rf K μ a0 0 2) fun b17 => bd (f_X3_wearSum K μ b17 a3 x4) fun x19 => gd (¬ (μ.1 b3 0) = 0) <| lt1 (α := Int32) (if (x19 / (μ.1 b3 0)) < 900 then (x19 / (μ.1 b3 0)) else 900) fun x21 => some ((x9 * (1000 - x21)) / 1000)) else (some x9))
set_option maxRecDepth 100000 in
set_option maxHeartbeats 4000000 in
theorem t_X5_priceAt {l : Launch} {Z : ZZ} {X : XX} (μ : Mm) (a0 : Nat) (a1 : Int32) (a2 : Int32) (a3 : Int32) (r : Int32) (k0 : (zk Z a0).1 = 4) (h : f_X5_priceAt (zk Z) μ a0 a1 a2 a3 = some r) (C : Cx l Z false X cX5_priceAt RX5 8 (some .int)) (E : Ex Z X 2 0 0 (some (.int r)) Z μ) : G Z X 8 0 0 0 [(0, .ref (za Z a0)), (1, .int a1), (2, .int a2), (3, .int a3)] [] μ := by
  unfold f_X5_priceAt at h
  refine g_aload_n C (i := 0) 0 rfl rfl (dk kX5_priceAt 0 rfl) ?_
  obtain ⟨b1, eb1, h⟩ := bd_inv h
  obtain ⟨rb1, kb1⟩ := rf_inv eb1
  refine gR_4_3 C k0 (C.w wd_1_174) rb1 (dk kX5_priceAt 1 rfl) ?_
  refine g_iload_n C (i := 2) 2 rfl rfl (dk kX5_priceAt 2 rfl) ?_
  obtain ⟨c2, h⟩ := gd_inv h
  obtain ⟨b3, eb3, h⟩ := bd_inv h
  obtain ⟨rb3, kb3⟩ := rf_inv eb3
  refine gA_10 C kb1 c2 rb3 (dk kX5_priceAt 3 rfl) ?_
  refine g_astore C (i := 4) (lv' := [(4, .ref (za Z b3)), (0, .ref (za Z a0)), (1, .int a1), (2, .int a2), (3, .int a3)]) (dk kX5_priceAt 4 rfl) (by decide) rfl ?_
  refine g_iload_n C (i := 3) 4 rfl rfl (dk kX5_priceAt 5 rfl) ?_
  refine g_aload C (i := 4) 0 rfl (dk kX5_priceAt 6 rfl) ?_
  refine gIN_3_0 C kb3 (nf_10 C) (dk kX5_priceAt 7 rfl) ?_
  refine g_iadd C (dk kX5_priceAt 8 rfl) ?_
  refine g_iconst C (v := 1) (by decide) (dk kX5_priceAt 9 rfl) ?_
  refine g_isub C (dk kX5_priceAt 10 rfl) ?_
  obtain ⟨x4, ex4, h⟩ := lt_inv h
  refine g_nmi ex4 ?_
  refine g_istore C (i := 5) (lv' := [(5, .int x4), (4, .ref (za Z b3)), (0, .ref (za Z a0)), (1, .int a1), (2, .int a2), (3, .int a3)]) (dk kX5_priceAt 11 rfl) (by decide) rfl ?_
  refine g_aload C (i := 4) 1 rfl (dk kX5_priceAt 12 rfl) ?_
  obtain ⟨x6, eq5, h⟩ := bd_inv h
  refine g_callV C E.2 (rest := []) 0 (ct_X4_blackCells kb3 eq5) wd_2_175 mm_X4_blackCells ⟨rfl, by decide, by decide, by decide⟩ rfl (by decide) kb3 (by decide) rfl rfl (Nat.le_of_ble_eq_true rfl) (by decide) (dk kX5_priceAt 13 rfl) ?_
  refine g_aload C (i := 4) 1 rfl (dk kX5_priceAt 14 rfl) ?_
  refine gIN_3_1 C kb3 (nf_12 C) (dk kX5_priceAt 15 rfl) ?_
  refine g_imul C (dk kX5_priceAt 16 rfl) ?_
  refine g_aload_n C (i := 0) 2 rfl rfl (dk kX5_priceAt 17 rfl) ?_
  obtain ⟨b7, eb7, h⟩ := bd_inv h
  obtain ⟨rb7, kb7⟩ := rf_inv eb7
  refine gR_4_2 C k0 (C.w wd_1_173) rb7 (dk kX5_priceAt 18 rfl) ?_
  refine g_bipush C (v := 6) (by decide) (dk kX5_priceAt 19 rfl) ?_
  obtain ⟨c8, h⟩ := gd_inv h
  refine g_iald C kb7 c8 (dk kX5_priceAt 20 rfl) ?_
  refine g_imul C (dk kX5_priceAt 21 rfl) ?_
  obtain ⟨x9, ex9, h⟩ := lt_inv h
  refine g_nmi ex9 ?_
  refine g_istore C (i := 6) (lv' := [(6, .int x9), (5, .int x4), (4, .ref (za Z b3)), (0, .ref (za Z a0)), (1, .int a1), (2, .int a2), (3, .int a3)]) (dk kX5_priceAt 22 rfl) (by decide) rfl ?_
  refine g_aload_n C (i := 0) 3 rfl rfl (dk kX5_priceAt 23 rfl) ?_
  obtain ⟨b10, eb10, h⟩ := bd_inv h
  obtain ⟨rb10, kb10⟩ := rf_inv eb10
  refine gR_4_5 C k0 (C.w wd_1_178) rb10 (dk kX5_priceAt 24 rfl) ?_
  refine g_iload_n C (i := 1) 4 rfl rfl (dk kX5_priceAt 25 rfl) ?_
  obtain ⟨c11, h⟩ := gd_inv h
  obtain ⟨b12, eb12, h⟩ := bd_inv h
  obtain ⟨rb12, kb12⟩ := rf_inv eb12
  refine gA_9 C kb10 c11 rb12 (dk kX5_priceAt 26 rfl) ?_
  refine g_iload_n C (i := 3) 6 rfl rfl (dk kX5_priceAt 27 rfl) ?_
  refine g_iload C (i := 5) 1 rfl (dk kX5_priceAt 28 rfl) ?_
  obtain ⟨x14, eq13, h⟩ := bd_inv h
  refine g_callV C E.2 (rest := []) 2 (ct_X2_rentsAllOf kb12 eq13) wd_2_225 mm_X2_rentsAllOf ⟨rfl, by decide, by decide, by decide⟩ rfl (by decide) kb12 (by decide) rfl rfl (Nat.le_of_ble_eq_true rfl) (by decide) (dk kX5_priceAt 29 rfl) ?_
  refine g_if_eq C (tgt := 64) (dk kX5_priceAt 30 rfl) (by decide) (fun c15 => ?_) (fun c15 => ?_)
  · replace h := ite_t h c15
    refine g_iload C (i := 6) 0 rfl (dk kX5_priceAt 35 rfl) ?_
    cases h
    exact g_iret C E rfl rfl (Nat.le_refl 0) (Nat.le_refl 0) (dk kX5_priceAt 36 rfl)
  · replace h := ite_f h c15
    refine g_aload C (i := 4) 2 rfl (dk kX5_priceAt 31 rfl) ?_
    refine gIN_3_0 C kb3 (nf_10 C) (dk kX5_priceAt 32 rfl) ?_
    refine g_iconst C (v := 1) (by decide) (dk kX5_priceAt 33 rfl) ?_
    refine g_icmp_ge C (tgt := 67) (dk kX5_priceAt 34 rfl) (by decide) (fun c16 => ?_) (fun c16 => ?_)
    · replace h := ite_t h c16
      refine g_sipush C (v := 900) (by decide) (dk kX5_priceAt 37 rfl) ?_
      refine g_aload_n C (i := 0) 3 rfl rfl (dk kX5_priceAt 38 rfl) ?_
      obtain ⟨b17, eb17, h⟩ := bd_inv h
      obtain ⟨rb17, kb17⟩ := rf_inv eb17
      refine gR_4_0 C k0 (C.w wd_1_170) rb17 (dk kX5_priceAt 39 rfl) ?_
      refine g_iload_n C (i := 3) 6 rfl rfl (dk kX5_priceAt 40 rfl) ?_
      refine g_iload C (i := 5) 1 rfl (dk kX5_priceAt 41 rfl) ?_
      obtain ⟨x19, eq18, h⟩ := bd_inv h
      refine g_callV C E.2 (rest := [.int 900]) 2 (ct_X3_wearSum kb17 eq18) wd_2_229 mm_X3_wearSum ⟨rfl, by decide, by decide, by decide⟩ rfl (by decide) kb17 (by decide) rfl rfl (Nat.le_of_ble_eq_true rfl) (by decide) (dk kX5_priceAt 42 rfl) ?_
      refine g_aload C (i := 4) 2 rfl (dk kX5_priceAt 43 rfl) ?_
      refine gIN_3_0 C kb3 (nf_10 C) (dk kX5_priceAt 44 rfl) ?_
      obtain ⟨c20, h⟩ := gd_inv h
      refine g_idiv C c20 (dk kX5_priceAt 45 rfl) ?_
      obtain ⟨x21, ex21, h⟩ := lt_inv h
      refine g_mmin C E.2 (C.w wd_2_233) (C.w wd_2_234) (C.w wd_1_18) (C.w wd_2_235) (by decide) (Nat.le_of_ble_eq_true rfl) (Nat.le_refl 0) (Nat.le_refl 0) (dk kX5_priceAt 46 rfl) ?_
      refine g_nmi ex21 ?_
      refine g_istore C (i := 7) (lv' := [(7, .int x21), (6, .int x9), (5, .int x4), (4, .ref (za Z b3)), (0, .ref (za Z a0)), (1, .int a1), (2, .int a2), (3, .int a3)]) (dk kX5_priceAt 47 rfl) (by decide) rfl ?_
      refine g_iload C (i := 6) 1 rfl (dk kX5_priceAt 48 rfl) ?_
      refine g_sipush C (v := 1000) (by decide) (dk kX5_priceAt 49 rfl) ?_
      refine g_iload C (i := 7) 0 rfl (dk kX5_priceAt 50 rfl) ?_
      refine g_isub C (dk kX5_priceAt 51 rfl) ?_
      refine g_imul C (dk kX5_priceAt 52 rfl) ?_
      refine g_sipush C (v := 1000) (by decide) (dk kX5_priceAt 53 rfl) ?_
      refine g_idiv C (by decide) (dk kX5_priceAt 54 rfl) ?_
      cases h
      exact g_iret C E rfl rfl (Nat.le_refl 0) (Nat.le_refl 0) (dk kX5_priceAt 55 rfl)
    · replace h := ite_f h c16
      refine g_iload C (i := 6) 0 rfl (dk kX5_priceAt 35 rfl) ?_
      cases h
      exact g_iret C E rfl rfl (Nat.le_refl 0) (Nat.le_refl 0) (dk kX5_priceAt 36 rfl)
theorem ct_X5_priceAt {l : Launch} {Z : ZZ} {μ : Mm} {a0 : Nat} {a1 : Int32} {a2 : Int32} {a3 : Int32} {r : Int32} (k0 : (zk Z a0).1 = 4) (h : f_X5_priceAt (zk Z) μ a0 a1 a2 a3 = some r) : CtM l Z false yX5_priceAt cX5_priceAt 8 (some .int) 2 0 0 [.ref (za Z a0), .int a1, .int a2, .int a3] μ (some (.int r)) Z μ := ct_of rfl rfl (Nat.le_of_ble_eq_true rfl) (fun X C E => t_X5_priceAt μ a0 a1 a2 a3 r k0 h C E)

def qX5_bestPlace : List (Nat × Instr × Nat) := [(0, .iconst (-1), 1), (1, .istore_n 3, 1), (2, .iconst 0, 1), (3, .istore 4, 2), (5, .iconst 0, 1), (6, .istore 5, 2), (8, .iconst 0, 1), (9, .istore 6, 2), (11, .iload 6, 2), (13, .bipush 23, 2), (15, .if_icmp .gt 79, 3), (18, .aload_n 0, 1), (19, .iload_n 1, 1), (20, .iload_n 2, 1), (21, .iload 6, 2), (23, .invokevirtual 142, 3), (26, .ifCond .eq 6, 3), (29, .goto 59, 3), (32, .aload_n 0, 1), (33, .iload_n 2, 1), (34, .iload 6, 2), (36, .invokevirtual 228, 3), (39, .istore 7, 2), (41, .aload_n 0, 1), (42, .iload_n 1, 1), (43, .iload_n 2, 1), (44, .iload 6, 2), (46, .invokevirtual 145, 3), (49, .istore 8, 2), (51, .iload_n 3, 1), (52, .iconst (-1), 1), (53, .if_icmp .eq 24, 3), (56, .iload 7, 2), (58, .iload 4, 2), (60, .if_icmp .lt 17, 3), (63, .iload 7, 2), (65, .iload 4, 2), (67, .if_icmp .ne 21, 3), (70, .iload 8, 2), (72, .iload 5, 2), (74, .if_icmp .ge 14, 3), (77, .iload 6, 2), (79, .istore_n 3, 1), (80, .iload 7, 2), (82, .istore 4, 2), (84, .iload 8, 2), (86, .istore 5, 2), (88, .iinc 6 1, 3), (91, .goto (-80), 3), (94, .iload_n 3, 1), (95, .ireturn, 1)]
theorem kX5_bestPlace : ∀ q ∈ qX5_bestPlace, decode cX5_bestPlace q.1 = .ok q.2 := by decide +kernel
def f_X5_bestPlace_l11 (K : Nat → Nat × Nat) (v0 : Nat) (v1 : Int32) (v2 : Int32) : Nat → Mm → Int32 → Int32 → Int32 → Int32 → Option (Int32 × Mm)
  | 0, _, _, _, _, _ => none
  | n + 1, μ, v3, v4, v5, v6 => if 23 < v6 then (some (v3, μ)) else (bd (f_X5_reasonAt K μ v0 v1 v2 v6) fun x3 => if x3 = 0 then (bd (f_X5_unreadableAt K μ v0 v2 v6) fun q5 => lt1 q5.1 fun x7 => lt1 q5.2 fun μ6 => bd (f_X5_priceAt K μ6 v0 v1 v2 v6) fun x9 => if v3 = (-1) then (lt1 (α := Int32) (v6 + 1) fun x11 => f_X5_bestPlace_l11 K v0 v1 v2 n μ6 v6 x7 x9 x11) else (if x7 < v4 then (lt1 (α := Int32) (v6 + 1) fun x13 => f_X5_bestPlace_l11 K v0 v1 v2 n μ6 v6 x7 x9 x13) else (if x7 = v4 then (if v5 ≤ x9 then (lt1 (α := Int32) (v6 + 1) fun x17 => f_X5_bestPlace_l11 K v0 v1 v2 n μ6 v3 v4 v5 x17) else (lt1 (α := Int32) (v6 + 1) fun x18 => f_X5_bestPlace_l11 K v0 v1 v2 n μ6 v6 x7 x9 x18)) else (lt1 (α := Int32) (v6 + 1) fun x15 => f_X5_bestPlace_l11 K v0 v1 v2 n μ6 v3 v4 v5 x15)))) else (lt1 (α := Int32) (v6 + 1) fun x19 => f_X5_bestPlace_l11 K v0 v1 v2 n μ v3 v4 v5 x19))
def f_X5_bestPlace (K : Nat → Nat × Nat) (μ : Mm) (a0 : Nat) (a1 : Int32) (a2 : Int32) : Option (Int32 × Mm) :=
  bd (f_X5_bestPlace_l11 K a0 a1 a2 FU μ (-1) 0 0 0) fun q20 => lt1 q20.1 fun x21 => lt1 q20.2 fun μ22 => some (x21, μ22)
set_option maxRecDepth 100000 in
set_option maxHeartbeats 4000000 in
theorem gl_X5_bestPlace_11 {l : Launch} {Z : ZZ} {X : XX} (v0 : Nat) (v1 : Int32) (v2 : Int32) (k0 : (zk Z v0).1 = 4) (C : Cx l Z false X cX5_bestPlace RX5 9 (some .int)) (E : xR X = rmm 3 0 0) : ∀ (n : Nat) (μ : Mm) (v3 : Int32) (v4 : Int32) (v5 : Int32) (v6 : Int32) (y : Int32 × Mm), f_X5_bestPlace_l11 (zk Z) v0 v1 v2 n μ v3 v4 v5 v6 = some y → G Z X 9 0 0 94 [(3, .int y.1)] [] y.2 → G Z X 9 0 0 11 [(0, .ref (za Z v0)), (1, .int v1), (2, .int v2), (3, .int v3), (4, .int v4), (5, .int v5), (6, .int v6)] [] μ := by
  intro n
  induction n with
  | zero => intro μ v3 v4 v5 v6 y h he; unfold f_X5_bestPlace_l11 at h; cases h
  | succ n ih =>
    intro μ v3 v4 v5 v6 y h he
    unfold f_X5_bestPlace_l11 at h
    refine g_iload C (i := 6) 6 rfl (dk kX5_bestPlace 8 rfl) ?_
    refine g_bipush C (v := 23) (by decide) (dk kX5_bestPlace 9 rfl) ?_
    refine g_icmp_gt C (tgt := 94) (dk kX5_bestPlace 10 rfl) (by decide) (fun c1 => ?_) (fun c1 => ?_)
    · replace h := ite_t h c1
      cases h
      exact g_sub [3] rfl he
    · replace h := ite_f h c1
      refine g_aload_n C (i := 0) 0 rfl rfl (dk kX5_bestPlace 11 rfl) ?_
      refine g_iload_n C (i := 1) 1 rfl rfl (dk kX5_bestPlace 12 rfl) ?_
      refine g_iload_n C (i := 2) 2 rfl rfl (dk kX5_bestPlace 13 rfl) ?_
      refine g_iload C (i := 6) 6 rfl (dk kX5_bestPlace 14 rfl) ?_
      obtain ⟨x3, eq2, h⟩ := bd_inv h
      refine g_callV C E (rest := []) 3 (ct_X5_reasonAt k0 eq2) wd_2_171 mm_X5_reasonAt ⟨rfl, by decide, by decide, by decide⟩ rfl (by decide) k0 (by decide) rfl rfl (Nat.le_of_ble_eq_true rfl) (by decide) (dk kX5_bestPlace 15 rfl) ?_
      refine g_if_eq C (tgt := 32) (dk kX5_bestPlace 16 rfl) (by decide) (fun c4 => ?_) (fun c4 => ?_)
      · replace h := ite_t h c4
        refine g_aload_n C (i := 0) 0 rfl rfl (dk kX5_bestPlace 18 rfl) ?_
        refine g_iload_n C (i := 2) 2 rfl rfl (dk kX5_bestPlace 19 rfl) ?_
        refine g_iload C (i := 6) 6 rfl (dk kX5_bestPlace 20 rfl) ?_
        obtain ⟨q5, eq5, h⟩ := bd_inv h
        obtain ⟨x7, ex7, h⟩ := lt_inv h
        obtain ⟨μ6, eμ6, h⟩ := lt_inv h
        rw [show q5 = (x7, μ6) from by rw [ex7, eμ6]] at eq5
        refine g_callV C E (rest := []) 2 (ct_X5_unreadableAt k0 eq5) wd_2_197 mm_X5_unreadableAt ⟨rfl, by decide, by decide, by decide⟩ rfl (by decide) k0 (by decide) rfl rfl (Nat.le_of_ble_eq_true rfl) (by decide) (dk kX5_bestPlace 21 rfl) ?_
        refine g_istore C (i := 7) (lv' := [(7, .int x7), (0, .ref (za Z v0)), (1, .int v1), (2, .int v2), (3, .int v3), (4, .int v4), (5, .int v5), (6, .int v6)]) (dk kX5_bestPlace 22 rfl) (by decide) rfl ?_
        refine g_aload_n C (i := 0) 1 rfl rfl (dk kX5_bestPlace 23 rfl) ?_
        refine g_iload_n C (i := 1) 2 rfl rfl (dk kX5_bestPlace 24 rfl) ?_
        refine g_iload_n C (i := 2) 3 rfl rfl (dk kX5_bestPlace 25 rfl) ?_
        refine g_iload C (i := 6) 7 rfl (dk kX5_bestPlace 26 rfl) ?_
        obtain ⟨x9, eq8, h⟩ := bd_inv h
        refine g_callV C E (rest := []) 3 (ct_X5_priceAt k0 eq8) wd_2_221 mm_X5_priceAt ⟨rfl, by decide, by decide, by decide⟩ rfl (by decide) k0 (by decide) rfl rfl (Nat.le_of_ble_eq_true rfl) (by decide) (dk kX5_bestPlace 27 rfl) ?_
        refine g_istore C (i := 8) (lv' := [(8, .int x9), (7, .int x7), (0, .ref (za Z v0)), (1, .int v1), (2, .int v2), (3, .int v3), (4, .int v4), (5, .int v5), (6, .int v6)]) (dk kX5_bestPlace 28 rfl) (by decide) rfl ?_
        refine g_iload_n C (i := 3) 5 rfl rfl (dk kX5_bestPlace 29 rfl) ?_
        refine g_iconst C (v := (-1)) (by decide) (dk kX5_bestPlace 30 rfl) ?_
        refine g_icmp_eq C (tgt := 77) (dk kX5_bestPlace 31 rfl) (by decide) (fun c10 => ?_) (fun c10 => ?_)
        · replace h := ite_t h c10
          refine g_iload C (i := 6) 8 rfl (dk kX5_bestPlace 41 rfl) ?_
          refine g_istore_n C (i := 3) (lv' := [(3, .int v6), (8, .int x9), (7, .int x7), (0, .ref (za Z v0)), (1, .int v1), (2, .int v2), (4, .int v4), (5, .int v5), (6, .int v6)]) (dk kX5_bestPlace 42 rfl) rfl (by decide) rfl ?_
          refine g_iload C (i := 7) 2 rfl (dk kX5_bestPlace 43 rfl) ?_
          refine g_istore C (i := 4) (lv' := [(4, .int x7), (3, .int v6), (8, .int x9), (7, .int x7), (0, .ref (za Z v0)), (1, .int v1), (2, .int v2), (5, .int v5), (6, .int v6)]) (dk kX5_bestPlace 44 rfl) (by decide) rfl ?_
          refine g_iload C (i := 8) 2 rfl (dk kX5_bestPlace 45 rfl) ?_
          refine g_istore C (i := 5) (lv' := [(5, .int x9), (4, .int x7), (3, .int v6), (8, .int x9), (7, .int x7), (0, .ref (za Z v0)), (1, .int v1), (2, .int v2), (6, .int v6)]) (dk kX5_bestPlace 46 rfl) (by decide) rfl ?_
          obtain ⟨x11, ex11, h⟩ := lt_inv h
          refine g_iinc C (i := 6) (v := x11) (lv' := [(6, .int x11), (5, .int x9), (4, .int x7), (3, .int v6), (8, .int x9), (7, .int x7), (0, .ref (za Z v0)), (1, .int v1), (2, .int v2)]) 8 (dk kX5_bestPlace 47 rfl) rfl (by rw [ex11]; rfl) (by decide) rfl ?_
          refine g_goto C (tgt := 11) (dk kX5_bestPlace 48 rfl) (by decide) ?_
          exact g_sub [6, 7, 8, 3, 2, 1, 0] rfl (ih μ6 v6 x7 x9 x11 y h he)
        · replace h := ite_f h c10
          refine g_iload C (i := 7) 1 rfl (dk kX5_bestPlace 32 rfl) ?_
          refine g_iload C (i := 4) 6 rfl (dk kX5_bestPlace 33 rfl) ?_
          refine g_icmp_lt C (tgt := 77) (dk kX5_bestPlace 34 rfl) (by decide) (fun c12 => ?_) (fun c12 => ?_)
          · replace h := ite_t h c12
            refine g_iload C (i := 6) 8 rfl (dk kX5_bestPlace 41 rfl) ?_
            refine g_istore_n C (i := 3) (lv' := [(3, .int v6), (8, .int x9), (7, .int x7), (0, .ref (za Z v0)), (1, .int v1), (2, .int v2), (4, .int v4), (5, .int v5), (6, .int v6)]) (dk kX5_bestPlace 42 rfl) rfl (by decide) rfl ?_
            refine g_iload C (i := 7) 2 rfl (dk kX5_bestPlace 43 rfl) ?_
            refine g_istore C (i := 4) (lv' := [(4, .int x7), (3, .int v6), (8, .int x9), (7, .int x7), (0, .ref (za Z v0)), (1, .int v1), (2, .int v2), (5, .int v5), (6, .int v6)]) (dk kX5_bestPlace 44 rfl) (by decide) rfl ?_
            refine g_iload C (i := 8) 2 rfl (dk kX5_bestPlace 45 rfl) ?_
            refine g_istore C (i := 5) (lv' := [(5, .int x9), (4, .int x7), (3, .int v6), (8, .int x9), (7, .int x7), (0, .ref (za Z v0)), (1, .int v1), (2, .int v2), (6, .int v6)]) (dk kX5_bestPlace 46 rfl) (by decide) rfl ?_
            obtain ⟨x13, ex13, h⟩ := lt_inv h
            refine g_iinc C (i := 6) (v := x13) (lv' := [(6, .int x13), (5, .int x9), (4, .int x7), (3, .int v6), (8, .int x9), (7, .int x7), (0, .ref (za Z v0)), (1, .int v1), (2, .int v2)]) 8 (dk kX5_bestPlace 47 rfl) rfl (by rw [ex13]; rfl) (by decide) rfl ?_
            refine g_goto C (tgt := 11) (dk kX5_bestPlace 48 rfl) (by decide) ?_
            exact g_sub [6, 7, 8, 3, 2, 1, 0] rfl (ih μ6 v6 x7 x9 x13 y h he)
          · replace h := ite_f h c12
            refine g_iload C (i := 7) 1 rfl (dk kX5_bestPlace 35 rfl) ?_
            refine g_iload C (i := 4) 6 rfl (dk kX5_bestPlace 36 rfl) ?_
            refine g_icmp_ne C (tgt := 88) (dk kX5_bestPlace 37 rfl) (by decide) (fun c14 => ?_) (fun c14 => ?_)
            · replace h := ite_f h c14
              obtain ⟨x15, ex15, h⟩ := lt_inv h
              refine g_iinc C (i := 6) (v := x15) (lv' := [(6, .int x15), (8, .int x9), (7, .int x7), (0, .ref (za Z v0)), (1, .int v1), (2, .int v2), (3, .int v3), (4, .int v4), (5, .int v5)]) 8 (dk kX5_bestPlace 47 rfl) rfl (by rw [ex15]; rfl) (by decide) rfl ?_
              refine g_goto C (tgt := 11) (dk kX5_bestPlace 48 rfl) (by decide) ?_
              exact g_sub [3, 4, 5, 6, 7, 8, 0] rfl (ih μ6 v3 v4 v5 x15 y h he)
            · replace h := ite_t h c14
              refine g_iload C (i := 8) 0 rfl (dk kX5_bestPlace 38 rfl) ?_
              refine g_iload C (i := 5) 7 rfl (dk kX5_bestPlace 39 rfl) ?_
              refine g_icmp_ge C (tgt := 88) (dk kX5_bestPlace 40 rfl) (by decide) (fun c16 => ?_) (fun c16 => ?_)
              · replace h := ite_t h c16
                obtain ⟨x17, ex17, h⟩ := lt_inv h
                refine g_iinc C (i := 6) (v := x17) (lv' := [(6, .int x17), (8, .int x9), (7, .int x7), (0, .ref (za Z v0)), (1, .int v1), (2, .int v2), (3, .int v3), (4, .int v4), (5, .int v5)]) 8 (dk kX5_bestPlace 47 rfl) rfl (by rw [ex17]; rfl) (by decide) rfl ?_
                refine g_goto C (tgt := 11) (dk kX5_bestPlace 48 rfl) (by decide) ?_
                exact g_sub [3, 4, 5, 6, 7, 8, 0] rfl (ih μ6 v3 v4 v5 x17 y h he)
              · replace h := ite_f h c16
                refine g_iload C (i := 6) 8 rfl (dk kX5_bestPlace 41 rfl) ?_
                refine g_istore_n C (i := 3) (lv' := [(3, .int v6), (8, .int x9), (7, .int x7), (0, .ref (za Z v0)), (1, .int v1), (2, .int v2), (4, .int v4), (5, .int v5), (6, .int v6)]) (dk kX5_bestPlace 42 rfl) rfl (by decide) rfl ?_
                refine g_iload C (i := 7) 2 rfl (dk kX5_bestPlace 43 rfl) ?_
                refine g_istore C (i := 4) (lv' := [(4, .int x7), (3, .int v6), (8, .int x9), (7, .int x7), (0, .ref (za Z v0)), (1, .int v1), (2, .int v2), (5, .int v5), (6, .int v6)]) (dk kX5_bestPlace 44 rfl) (by decide) rfl ?_
                refine g_iload C (i := 8) 2 rfl (dk kX5_bestPlace 45 rfl) ?_
                refine g_istore C (i := 5) (lv' := [(5, .int x9), (4, .int x7), (3, .int v6), (8, .int x9), (7, .int x7), (0, .ref (za Z v0)), (1, .int v1), (2, .int v2), (6, .int v6)]) (dk kX5_bestPlace 46 rfl) (by decide) rfl ?_
                obtain ⟨x18, ex18, h⟩ := lt_inv h
                refine g_iinc C (i := 6) (v := x18) (lv' := [(6, .int x18), (5, .int x9), (4, .int x7), (3, .int v6), (8, .int x9), (7, .int x7), (0, .ref (za Z v0)), (1, .int v1), (2, .int v2)]) 8 (dk kX5_bestPlace 47 rfl) rfl (by rw [ex18]; rfl) (by decide) rfl ?_
                refine g_goto C (tgt := 11) (dk kX5_bestPlace 48 rfl) (by decide) ?_
                exact g_sub [6, 7, 8, 3, 2, 1, 0] rfl (ih μ6 v6 x7 x9 x18 y h he)
      · replace h := ite_f h c4
        refine g_goto C (tgt := 88) (dk kX5_bestPlace 17 rfl) (by decide) ?_
        obtain ⟨x19, ex19, h⟩ := lt_inv h
        refine g_iinc C (i := 6) (v := x19) (lv' := [(6, .int x19), (0, .ref (za Z v0)), (1, .int v1), (2, .int v2), (3, .int v3), (4, .int v4), (5, .int v5)]) 6 (dk kX5_bestPlace 47 rfl) rfl (by rw [ex19]; rfl) (by decide) rfl ?_
        refine g_goto C (tgt := 11) (dk kX5_bestPlace 48 rfl) (by decide) ?_
        exact g_sub [1, 2, 3, 4, 5, 6, 0] rfl (ih μ v3 v4 v5 x19 y h he)
set_option maxRecDepth 100000 in
set_option maxHeartbeats 4000000 in
theorem t_X5_bestPlace {l : Launch} {Z : ZZ} {X : XX} (μ : Mm) (a0 : Nat) (a1 : Int32) (a2 : Int32) (r : Int32) (μ' : Mm) (k0 : (zk Z a0).1 = 4) (h : f_X5_bestPlace (zk Z) μ a0 a1 a2 = some (r, μ')) (C : Cx l Z false X cX5_bestPlace RX5 9 (some .int)) (E : Ex Z X 3 0 0 (some (.int r)) Z μ') : G Z X 9 0 0 0 [(0, .ref (za Z a0)), (1, .int a1), (2, .int a2)] [] μ := by
  unfold f_X5_bestPlace at h
  refine g_iconst C (v := (-1)) (by decide) (dk kX5_bestPlace 0 rfl) ?_
  refine g_istore_n C (i := 3) (lv' := [(3, .int (-1)), (0, .ref (za Z a0)), (1, .int a1), (2, .int a2)]) (dk kX5_bestPlace 1 rfl) rfl (by decide) rfl ?_
  refine g_iconst C (v := 0) (by decide) (dk kX5_bestPlace 2 rfl) ?_
  refine g_istore C (i := 4) (lv' := [(4, .int 0), (3, .int (-1)), (0, .ref (za Z a0)), (1, .int a1), (2, .int a2)]) (dk kX5_bestPlace 3 rfl) (by decide) rfl ?_
  refine g_iconst C (v := 0) (by decide) (dk kX5_bestPlace 4 rfl) ?_
  refine g_istore C (i := 5) (lv' := [(5, .int 0), (4, .int 0), (3, .int (-1)), (0, .ref (za Z a0)), (1, .int a1), (2, .int a2)]) (dk kX5_bestPlace 5 rfl) (by decide) rfl ?_
  refine g_iconst C (v := 0) (by decide) (dk kX5_bestPlace 6 rfl) ?_
  refine g_istore C (i := 6) (lv' := [(6, .int 0), (5, .int 0), (4, .int 0), (3, .int (-1)), (0, .ref (za Z a0)), (1, .int a1), (2, .int a2)]) (dk kX5_bestPlace 7 rfl) (by decide) rfl ?_
  obtain ⟨q20, eq20, h⟩ := bd_inv h
  refine g_sub [4, 5, 6, 3, 2, 1, 0] (lv' := [(0, .ref (za Z a0)), (1, .int a1), (2, .int a2), (3, .int (-1)), (4, .int 0), (5, .int 0), (6, .int 0)]) rfl ?_
  refine gl_X5_bestPlace_11 a0 a1 a2 k0 C E.2 FU μ (-1) 0 0 0 _ eq20 ?_
  obtain ⟨x21, ex21, h⟩ := lt_inv h
  obtain ⟨μ22, eμ22, h⟩ := lt_inv h
  rw [← ex21, ← eμ22]
  refine g_iload_n C (i := 3) 0 rfl rfl (dk kX5_bestPlace 49 rfl) ?_
  cases h
  exact g_iret C E rfl rfl (Nat.le_refl 0) (Nat.le_refl 0) (dk kX5_bestPlace 50 rfl)
theorem ct_X5_bestPlace {l : Launch} {Z : ZZ} {μ : Mm} {a0 : Nat} {a1 : Int32} {a2 : Int32} {r : Int32} {μ' : Mm} (k0 : (zk Z a0).1 = 4) (h : f_X5_bestPlace (zk Z) μ a0 a1 a2 = some (r, μ')) : CtM l Z false yX5_bestPlace cX5_bestPlace 9 (some .int) 3 0 0 [.ref (za Z a0), .int a1, .int a2] μ (some (.int r)) Z μ' := ct_of rfl rfl (Nat.le_of_ble_eq_true rfl) (fun X C E => t_X5_bestPlace μ a0 a1 a2 r μ' k0 h C E)

def qX5_book : List (Nat × Instr × Nat) := [(0, .aload_n 1, 1), (1, .dup, 1), (2, .getfield 156, 3), (5, .iload_n 3, 1), (6, .iadd, 1), (7, .putfield 156, 3), (10, .aload_n 1, 1), (11, .dup, 1), (12, .getfield 159, 3), (15, .iconst 1, 1), (16, .iadd, 1), (17, .putfield 159, 3), (20, .aload_n 2, 1), (21, .dup, 1), (22, .getfield 162, 3), (25, .iconst 1, 1), (26, .iadd, 1), (27, .putfield 162, 3), (30, .iload 4, 2), (32, .ifCond .eq 33, 3), (35, .aload_n 1, 1), (36, .dup, 1), (37, .getfield 163, 3), (40, .iload_n 3, 1), (41, .iadd, 1), (42, .putfield 163, 3), (45, .aload_n 1, 1), (46, .dup, 1), (47, .getfield 166, 3), (50, .iconst 1, 1), (51, .iadd, 1), (52, .putfield 166, 3), (55, .aload_n 2, 1), (56, .dup, 1), (57, .getfield 169, 3), (60, .iconst 1, 1), (61, .iadd, 1), (62, .putfield 169, 3), (65, .return_, 1)]
theorem kX5_book : ∀ q ∈ qX5_book, decode cX5_book q.1 = .ok q.2 := by decide +kernel
def f_X5_book (K : Nat → Nat × Nat) (μ : Mm) (a0 : Nat) (a1 : Nat) (a2 : Nat) (a3 : Int32) (a4 : Int32) : Option (Mm) :=
  lt1 (sI μ a1 2 ((μ.1 a1 2) + a3)) fun μ1 => lt1 (sI μ1 a1 4 ((μ1.1 a1 4) + 1)) fun μ2 => lt1 (sI μ2 a2 2 ((μ2.1 a2 2) + 1)) fun μ3 => if a4 = 0 then (some (μ3)) else (lt1 (sI μ3 a1 3 ((μ3.1 a1 3) + a3)) fun μ5 => lt1 (sI μ5 a1 5 ((μ5.1 a1 5) + 1)) fun μ6 => lt1 (sI μ6 a2 3 ((μ6.1 a2 3) + 1)) fun μ7 => some (μ7))
set_option maxRecDepth 100000 in
set_option maxHeartbeats 4000000 in
theorem t_X5_book {l : Launch} {Z : ZZ} {X : XX} (μ : Mm) (a0 : Nat) (a1 : Nat) (a2 : Nat) (a3 : Int32) (a4 : Int32) (μ' : Mm) (k0 : (zk Z a0).1 = 4) (k1 : (zk Z a1).1 = 1) (k2 : (zk Z a2).1 = 3) (h : f_X5_book (zk Z) μ a0 a1 a2 a3 a4 = some μ') (C : Cx l Z false X cX5_book RX5 5 none) (E : Ex Z X 0 0 0 none Z μ') : G Z X 5 0 0 0 [(0, .ref (za Z a0)), (1, .ref (za Z a1)), (2, .ref (za Z a2)), (3, .int a3), (4, .int a4)] [] μ := by
  unfold f_X5_book at h
  refine g_aload_n C (i := 1) 1 rfl rfl (dk kX5_book 0 rfl) ?_
  refine g_dup C rfl (dk kX5_book 1 rfl) ?_
  refine gIN_1_2 C k1 (nf_21 C) (dk kX5_book 2 rfl) ?_
  refine g_iload_n C (i := 3) 3 rfl rfl (dk kX5_book 3 rfl) ?_
  refine g_iadd C (dk kX5_book 4 rfl) ?_
  obtain ⟨μ1, eμ1, h⟩ := lt_inv h
  refine pIN_1_2 C k1 (nf_21 C) eμ1 (dk kX5_book 5 rfl) ?_
  refine g_aload_n C (i := 1) 1 rfl rfl (dk kX5_book 6 rfl) ?_
  refine g_dup C rfl (dk kX5_book 7 rfl) ?_
  refine gIN_1_4 C k1 (nf_23 C) (dk kX5_book 8 rfl) ?_
  refine g_iconst C (v := 1) (by decide) (dk kX5_book 9 rfl) ?_
  refine g_iadd C (dk kX5_book 10 rfl) ?_
  obtain ⟨μ2, eμ2, h⟩ := lt_inv h
  refine pIN_1_4 C k1 (nf_23 C) eμ2 (dk kX5_book 11 rfl) ?_
  refine g_aload_n C (i := 2) 2 rfl rfl (dk kX5_book 12 rfl) ?_
  refine g_dup C rfl (dk kX5_book 13 rfl) ?_
  refine gIN_3_2 C k2 (nf_14 C) (dk kX5_book 14 rfl) ?_
  refine g_iconst C (v := 1) (by decide) (dk kX5_book 15 rfl) ?_
  refine g_iadd C (dk kX5_book 16 rfl) ?_
  obtain ⟨μ3, eμ3, h⟩ := lt_inv h
  refine pIN_3_2 C k2 (nf_14 C) eμ3 (dk kX5_book 17 rfl) ?_
  refine g_iload C (i := 4) 4 rfl (dk kX5_book 18 rfl) ?_
  refine g_if_eq C (tgt := 65) (dk kX5_book 19 rfl) (by decide) (fun c4 => ?_) (fun c4 => ?_)
  · replace h := ite_t h c4
    cases h
    exact g_vret C E (Nat.le_refl 0) (Nat.le_refl 0) (dk kX5_book 38 rfl)
  · replace h := ite_f h c4
    refine g_aload_n C (i := 1) 1 rfl rfl (dk kX5_book 20 rfl) ?_
    refine g_dup C rfl (dk kX5_book 21 rfl) ?_
    refine gIN_1_3 C k1 (nf_22 C) (dk kX5_book 22 rfl) ?_
    refine g_iload_n C (i := 3) 3 rfl rfl (dk kX5_book 23 rfl) ?_
    refine g_iadd C (dk kX5_book 24 rfl) ?_
    obtain ⟨μ5, eμ5, h⟩ := lt_inv h
    refine pIN_1_3 C k1 (nf_22 C) eμ5 (dk kX5_book 25 rfl) ?_
    refine g_aload_n C (i := 1) 1 rfl rfl (dk kX5_book 26 rfl) ?_
    refine g_dup C rfl (dk kX5_book 27 rfl) ?_
    refine gIN_1_5 C k1 (nf_24 C) (dk kX5_book 28 rfl) ?_
    refine g_iconst C (v := 1) (by decide) (dk kX5_book 29 rfl) ?_
    refine g_iadd C (dk kX5_book 30 rfl) ?_
    obtain ⟨μ6, eμ6, h⟩ := lt_inv h
    refine pIN_1_5 C k1 (nf_24 C) eμ6 (dk kX5_book 31 rfl) ?_
    refine g_aload_n C (i := 2) 2 rfl rfl (dk kX5_book 32 rfl) ?_
    refine g_dup C rfl (dk kX5_book 33 rfl) ?_
    refine gIN_3_3 C k2 (nf_15 C) (dk kX5_book 34 rfl) ?_
    refine g_iconst C (v := 1) (by decide) (dk kX5_book 35 rfl) ?_
    refine g_iadd C (dk kX5_book 36 rfl) ?_
    obtain ⟨μ7, eμ7, h⟩ := lt_inv h
    refine pIN_3_3 C k2 (nf_15 C) eμ7 (dk kX5_book 37 rfl) ?_
    cases h
    exact g_vret C E (Nat.le_refl 0) (Nat.le_refl 0) (dk kX5_book 38 rfl)
theorem ct_X5_book {l : Launch} {Z : ZZ} {μ : Mm} {a0 : Nat} {a1 : Nat} {a2 : Nat} {a3 : Int32} {a4 : Int32} {μ' : Mm} (k0 : (zk Z a0).1 = 4) (k1 : (zk Z a1).1 = 1) (k2 : (zk Z a2).1 = 3) (h : f_X5_book (zk Z) μ a0 a1 a2 a3 a4 = some μ') : CtM l Z false yX5_book cX5_book 5 none 0 0 0 [.ref (za Z a0), .ref (za Z a1), .ref (za Z a2), .int a3, .int a4] μ none Z μ' := ct_of rfl rfl (Nat.le_of_ble_eq_true rfl) (fun X C E => t_X5_book μ a0 a1 a2 a3 a4 μ' k0 k1 k2 h C E)

def qX5_newHead : List (Nat × Instr × Nat) := [(0, .aload_n 0, 1), (1, .invokevirtual 71, 3), (4, .istore_n 2, 1), (5, .aload_n 0, 1), (6, .getfield 12, 3), (9, .iload_n 1, 1), (10, .invokevirtual 75, 3), (13, .iconst 0, 1), (14, .istore_n 3, 1), (15, .iload_n 3, 1), (16, .aload_n 0, 1), (17, .getfield 62, 3), (20, .if_icmp .ge 18, 3), (23, .aload_n 0, 1), (24, .getfield 30, 3), (27, .iload_n 3, 1), (28, .aaload, 1), (29, .invokevirtual 79, 3), (32, .iinc 3 1, 3), (35, .goto (-20), 3), (38, .iload_n 2, 1), (39, .ireturn, 1)]
theorem kX5_newHead : ∀ q ∈ qX5_newHead, decode cX5_newHead q.1 = .ok q.2 := by decide +kernel
def f_X5_newHead_l15 (K : Nat → Nat × Nat) (v0 : Nat) (v2 : Int32) : Nat → Mm → Int32 → Option (Mm)
  | 0, _, _ => none
  | n + 1, μ, v3 => if (μ.1 v0 6) ≤ v3 then (some μ) else (bd (rf K μ v0 5 9) fun b7 => gd (inb v3 (K b7).2) <| bd (rf K μ b7 (ix v3) 1) fun b9 => bd (f_X2_rentNothing K μ b9) fun μ11 => lt1 (α := Int32) (v3 + 1) fun x12 => f_X5_newHead_l15 K v0 v2 n μ11 x12)
def f_X5_newHead (K : Nat → Nat × Nat) (μ : Mm) (a0 : Nat) (a1 : Int32) : Option (Int32 × Mm) :=
  bd (f_X5_allWear K μ a0) fun x2 => bd (rf K μ a0 0 2) fun b3 => bd (f_X3_renewAll K μ b3 a1) fun μ5 => bd (f_X5_newHead_l15 K a0 x2 FU μ5 0) fun q13 => lt1 q13 fun μ14 => some (x2, μ14)
set_option maxRecDepth 100000 in
set_option maxHeartbeats 4000000 in
theorem gl_X5_newHead_15 {l : Launch} {Z : ZZ} {X : XX} (v0 : Nat) (v2 : Int32) (k0 : (zk Z v0).1 = 4) (C : Cx l Z false X cX5_newHead RX5 4 (some .int)) (E : xR X = rmm 2 0 0) : ∀ (n : Nat) (μ : Mm) (v3 : Int32) (y : Mm), f_X5_newHead_l15 (zk Z) v0 v2 n μ v3 = some y → G Z X 4 0 0 38 [(2, .int v2)] [] y → G Z X 4 0 0 15 [(0, .ref (za Z v0)), (2, .int v2), (3, .int v3)] [] μ := by
  intro n
  induction n with
  | zero => intro μ v3 y h he; unfold f_X5_newHead_l15 at h; cases h
  | succ n ih =>
    intro μ v3 y h he
    unfold f_X5_newHead_l15 at h
    refine g_iload_n C (i := 3) 2 rfl rfl (dk kX5_newHead 9 rfl) ?_
    refine g_aload_n C (i := 0) 0 rfl rfl (dk kX5_newHead 10 rfl) ?_
    refine gI_4_6 C k0 (C.w wd_1_180) (dk kX5_newHead 11 rfl) ?_
    refine g_icmp_ge C (tgt := 38) (dk kX5_newHead 12 rfl) (by decide) (fun c6 => ?_) (fun c6 => ?_)
    · replace h := ite_t h c6
      cases h
      exact g_sub [1] rfl he
    · replace h := ite_f h c6
      refine g_aload_n C (i := 0) 0 rfl rfl (dk kX5_newHead 13 rfl) ?_
      obtain ⟨b7, eb7, h⟩ := bd_inv h
      obtain ⟨rb7, kb7⟩ := rf_inv eb7
      refine gR_4_5 C k0 (C.w wd_1_178) rb7 (dk kX5_newHead 14 rfl) ?_
      refine g_iload_n C (i := 3) 2 rfl rfl (dk kX5_newHead 15 rfl) ?_
      obtain ⟨c8, h⟩ := gd_inv h
      obtain ⟨b9, eb9, h⟩ := bd_inv h
      obtain ⟨rb9, kb9⟩ := rf_inv eb9
      refine gA_9 C kb7 c8 rb9 (dk kX5_newHead 16 rfl) ?_
      obtain ⟨μ11, eq10, h⟩ := bd_inv h
      refine g_callV C E (rest := []) 0 (ct_X2_rentNothing kb9 eq10) wd_3_32 mm_X2_rentNothing ⟨rfl, by decide, by decide, by decide⟩ rfl (by decide) kb9 (by decide) rfl rfl (Nat.le_of_ble_eq_true rfl) (by decide) (dk kX5_newHead 17 rfl) ?_
      obtain ⟨x12, ex12, h⟩ := lt_inv h
      refine g_iinc C (i := 3) (v := x12) (lv' := [(3, .int x12), (0, .ref (za Z v0)), (2, .int v2)]) 2 (dk kX5_newHead 18 rfl) rfl (by rw [ex12]; rfl) (by decide) rfl ?_
      refine g_goto C (tgt := 15) (dk kX5_newHead 19 rfl) (by decide) ?_
      exact g_sub [1, 2, 0] rfl (ih μ11 x12 y h he)
set_option maxRecDepth 100000 in
set_option maxHeartbeats 4000000 in
theorem t_X5_newHead {l : Launch} {Z : ZZ} {X : XX} (μ : Mm) (a0 : Nat) (a1 : Int32) (r : Int32) (μ' : Mm) (k0 : (zk Z a0).1 = 4) (h : f_X5_newHead (zk Z) μ a0 a1 = some (r, μ')) (C : Cx l Z false X cX5_newHead RX5 4 (some .int)) (E : Ex Z X 2 0 0 (some (.int r)) Z μ') : G Z X 4 0 0 0 [(0, .ref (za Z a0)), (1, .int a1)] [] μ := by
  unfold f_X5_newHead at h
  refine g_aload_n C (i := 0) 0 rfl rfl (dk kX5_newHead 0 rfl) ?_
  obtain ⟨x2, eq1, h⟩ := bd_inv h
  refine g_callV C E.2 (rest := []) 0 (ct_X5_allWear k0 eq1) wd_3_20 mm_X5_allWear ⟨rfl, by decide, by decide, by decide⟩ rfl (by decide) k0 (by decide) rfl rfl (Nat.le_of_ble_eq_true rfl) (by decide) (dk kX5_newHead 1 rfl) ?_
  refine g_istore_n C (i := 2) (lv' := [(2, .int x2), (0, .ref (za Z a0)), (1, .int a1)]) (dk kX5_newHead 2 rfl) rfl (by decide) rfl ?_
  refine g_aload_n C (i := 0) 1 rfl rfl (dk kX5_newHead 3 rfl) ?_
  obtain ⟨b3, eb3, h⟩ := bd_inv h
  obtain ⟨rb3, kb3⟩ := rf_inv eb3
  refine gR_4_0 C k0 (C.w wd_1_170) rb3 (dk kX5_newHead 4 rfl) ?_
  refine g_iload_n C (i := 1) 2 rfl rfl (dk kX5_newHead 5 rfl) ?_
  obtain ⟨μ5, eq4, h⟩ := bd_inv h
  refine g_callV C E.2 (rest := []) 1 (ct_X3_renewAll kb3 eq4) wd_3_24 mm_X3_renewAll ⟨rfl, by decide, by decide, by decide⟩ rfl (by decide) kb3 (by decide) rfl rfl (Nat.le_of_ble_eq_true rfl) (by decide) (dk kX5_newHead 6 rfl) ?_
  refine g_iconst C (v := 0) (by decide) (dk kX5_newHead 7 rfl) ?_
  refine g_istore_n C (i := 3) (lv' := [(3, .int 0), (2, .int x2), (0, .ref (za Z a0)), (1, .int a1)]) (dk kX5_newHead 8 rfl) rfl (by decide) rfl ?_
  obtain ⟨q13, eq13, h⟩ := bd_inv h
  refine g_sub [2, 1, 0] (lv' := [(0, .ref (za Z a0)), (2, .int x2), (3, .int 0)]) rfl ?_
  refine gl_X5_newHead_15 a0 x2 k0 C E.2 FU μ5 0 _ eq13 ?_
  obtain ⟨μ14, eμ14, h⟩ := lt_inv h
  rw [← eμ14]
  refine g_iload_n C (i := 2) 0 rfl rfl (dk kX5_newHead 20 rfl) ?_
  cases h
  exact g_iret C E rfl rfl (Nat.le_refl 0) (Nat.le_refl 0) (dk kX5_newHead 21 rfl)
theorem ct_X5_newHead {l : Launch} {Z : ZZ} {μ : Mm} {a0 : Nat} {a1 : Int32} {r : Int32} {μ' : Mm} (k0 : (zk Z a0).1 = 4) (h : f_X5_newHead (zk Z) μ a0 a1 = some (r, μ')) : CtM l Z false yX5_newHead cX5_newHead 4 (some .int) 2 0 0 [.ref (za Z a0), .int a1] μ (some (.int r)) Z μ' := ct_of rfl rfl (Nat.le_of_ble_eq_true rfl) (fun X C E => t_X5_newHead μ a0 a1 r μ' k0 h C E)

def qX5_newLabel : List (Nat × Instr × Nat) := [(0, .aload_n 0, 1), (1, .getfield 24, 3), (4, .aload_n 0, 1), (5, .getfield 55, 3), (8, .aaload, 1), (9, .iload_n 1, 1), (10, .putfield 88, 3), (13, .aload_n 0, 1), (14, .getfield 24, 3), (17, .aload_n 0, 1), (18, .getfield 55, 3), (21, .aaload, 1), (22, .iload_n 2, 1), (23, .putfield 91, 3), (26, .aload_n 0, 1), (27, .dup, 1), (28, .getfield 55, 3), (31, .iconst 1, 1), (32, .iadd, 1), (33, .putfield 55, 3), (36, .aload_n 0, 1), (37, .getfield 55, 3), (40, .iconst 1, 1), (41, .isub, 1), (42, .ireturn, 1)]
theorem kX5_newLabel : ∀ q ∈ qX5_newLabel, decode cX5_newLabel q.1 = .ok q.2 := by decide +kernel
def f_X5_newLabel (K : Nat → Nat × Nat) (μ : Mm) (a0 : Nat) (a1 : Int32) (a2 : Int32) : Option (Int32 × Mm) :=
  bd (rf K μ a0 3 10) fun b1 => gd (inb (μ.1 a0 4) (K b1).2) <| bd (rf K μ b1 (ix (μ.1 a0 4)) 3) fun b3 => lt1 (sI μ b3 0 a1) fun μ4 => bd (rf K μ4 a0 3 10) fun b5 => gd (inb (μ4.1 a0 4) (K b5).2) <| bd (rf K μ4 b5 (ix (μ4.1 a0 4)) 3) fun b7 => lt1 (sI μ4 b7 1 a2) fun μ8 => lt1 (sI μ8 a0 4 ((μ8.1 a0 4) + 1)) fun μ9 => some (((μ9.1 a0 4) - 1), μ9)
set_option maxRecDepth 100000 in
set_option maxHeartbeats 4000000 in
theorem t_X5_newLabel {l : Launch} {Z : ZZ} {X : XX} (μ : Mm) (a0 : Nat) (a1 : Int32) (a2 : Int32) (r : Int32) (μ' : Mm) (k0 : (zk Z a0).1 = 4) (h : f_X5_newLabel (zk Z) μ a0 a1 a2 = some (r, μ')) (C : Cx l Z false X cX5_newLabel RX5 3 (some .int)) (E : Ex Z X 0 0 0 (some (.int r)) Z μ') : G Z X 3 0 0 0 [(0, .ref (za Z a0)), (1, .int a1), (2, .int a2)] [] μ := by
  unfold f_X5_newLabel at h
  refine g_aload_n C (i := 0) 0 rfl rfl (dk kX5_newLabel 0 rfl) ?_
  obtain ⟨b1, eb1, h⟩ := bd_inv h
  obtain ⟨rb1, kb1⟩ := rf_inv eb1
  refine gR_4_3 C k0 (C.w wd_1_174) rb1 (dk kX5_newLabel 1 rfl) ?_
  refine g_aload_n C (i := 0) 0 rfl rfl (dk kX5_newLabel 2 rfl) ?_
  refine gI_4_4 C k0 (C.w wd_1_176) (dk kX5_newLabel 3 rfl) ?_
  obtain ⟨c2, h⟩ := gd_inv h
  obtain ⟨b3, eb3, h⟩ := bd_inv h
  obtain ⟨rb3, kb3⟩ := rf_inv eb3
  refine gA_10 C kb1 c2 rb3 (dk kX5_newLabel 4 rfl) ?_
  refine g_iload_n C (i := 1) 1 rfl rfl (dk kX5_newLabel 5 rfl) ?_
  obtain ⟨μ4, eμ4, h⟩ := lt_inv h
  refine pIN_3_0 C kb3 (nf_10 C) eμ4 (dk kX5_newLabel 6 rfl) ?_
  refine g_aload_n C (i := 0) 0 rfl rfl (dk kX5_newLabel 7 rfl) ?_
  obtain ⟨b5, eb5, h⟩ := bd_inv h
  obtain ⟨rb5, kb5⟩ := rf_inv eb5
  refine gR_4_3 C k0 (C.w wd_1_174) rb5 (dk kX5_newLabel 8 rfl) ?_
  refine g_aload_n C (i := 0) 0 rfl rfl (dk kX5_newLabel 9 rfl) ?_
  refine gI_4_4 C k0 (C.w wd_1_176) (dk kX5_newLabel 10 rfl) ?_
  obtain ⟨c6, h⟩ := gd_inv h
  obtain ⟨b7, eb7, h⟩ := bd_inv h
  obtain ⟨rb7, kb7⟩ := rf_inv eb7
  refine gA_10 C kb5 c6 rb7 (dk kX5_newLabel 11 rfl) ?_
  refine g_iload_n C (i := 2) 2 rfl rfl (dk kX5_newLabel 12 rfl) ?_
  obtain ⟨μ8, eμ8, h⟩ := lt_inv h
  refine pIN_3_1 C kb7 (nf_12 C) eμ8 (dk kX5_newLabel 13 rfl) ?_
  refine g_aload_n C (i := 0) 0 rfl rfl (dk kX5_newLabel 14 rfl) ?_
  refine g_dup C rfl (dk kX5_newLabel 15 rfl) ?_
  refine gI_4_4 C k0 (C.w wd_1_176) (dk kX5_newLabel 16 rfl) ?_
  refine g_iconst C (v := 1) (by decide) (dk kX5_newLabel 17 rfl) ?_
  refine g_iadd C (dk kX5_newLabel 18 rfl) ?_
  obtain ⟨μ9, eμ9, h⟩ := lt_inv h
  refine pI_4_4 C k0 (C.w wd_1_176) eμ9 (dk kX5_newLabel 19 rfl) ?_
  refine g_aload_n C (i := 0) 0 rfl rfl (dk kX5_newLabel 20 rfl) ?_
  refine gI_4_4 C k0 (C.w wd_1_176) (dk kX5_newLabel 21 rfl) ?_
  refine g_iconst C (v := 1) (by decide) (dk kX5_newLabel 22 rfl) ?_
  refine g_isub C (dk kX5_newLabel 23 rfl) ?_
  cases h
  exact g_iret C E rfl rfl (Nat.le_refl 0) (Nat.le_refl 0) (dk kX5_newLabel 24 rfl)
theorem ct_X5_newLabel {l : Launch} {Z : ZZ} {μ : Mm} {a0 : Nat} {a1 : Int32} {a2 : Int32} {r : Int32} {μ' : Mm} (k0 : (zk Z a0).1 = 4) (h : f_X5_newLabel (zk Z) μ a0 a1 a2 = some (r, μ')) : CtM l Z false yX5_newLabel cX5_newLabel 3 (some .int) 0 0 0 [.ref (za Z a0), .int a1, .int a2] μ (some (.int r)) Z μ' := ct_of rfl rfl (Nat.le_of_ble_eq_true rfl) (fun X C E => t_X5_newLabel μ a0 a1 a2 r μ' k0 h C E)

def qX5_changeRow : List (Nat × Instr × Nat) := [(0, .aload_n 0, 1), (1, .getfield 24, 3), (4, .iload_n 1, 1), (5, .aaload, 1), (6, .getfield 101, 3), (9, .iload_n 2, 1), (10, .iaload, 1), (11, .istore 4, 2), (13, .aload_n 0, 1), (14, .getfield 24, 3), (17, .iload_n 1, 1), (18, .aaload, 1), (19, .getfield 101, 3), (22, .iload_n 2, 1), (23, .iload_n 3, 1), (24, .iastore, 1), (25, .iload 4, 2), (27, .ireturn, 1)]
theorem kX5_changeRow : ∀ q ∈ qX5_changeRow, decode cX5_changeRow q.1 = .ok q.2 := by decide +kernel
def f_X5_changeRow (K : Nat → Nat × Nat) (μ : Mm) (a0 : Nat) (a1 : Int32) (a2 : Int32) (a3 : Int32) : Option (Int32 × Mm) :=
  bd (rf K μ a0 3 10) fun b1 => gd (inb a1 (K b1).2) <| bd (rf K μ b1 (ix a1) 3) fun b3 => bd (rf K μ b3 4 8) fun b4 => gd (inb a2 (K b4).2) <| lt1 (α := Int32) (μ.1 b4 (ix a2)) fun x6 => bd (rf K μ a0 3 10) fun b7 => gd (inb a1 (K b7).2) <| bd (rf K μ b7 (ix a1) 3) fun b9 => bd (rf K μ b9 4 8) fun b10 => gd (inb a2 (K b10).2) <| lt1 (sI μ b10 (ix a2) a3) fun μ12 => some (x6, μ12)
set_option maxRecDepth 100000 in
set_option maxHeartbeats 4000000 in
theorem t_X5_changeRow {l : Launch} {Z : ZZ} {X : XX} (μ : Mm) (a0 : Nat) (a1 : Int32) (a2 : Int32) (a3 : Int32) (r : Int32) (μ' : Mm) (k0 : (zk Z a0).1 = 4) (h : f_X5_changeRow (zk Z) μ a0 a1 a2 a3 = some (r, μ')) (C : Cx l Z false X cX5_changeRow RX5 5 (some .int)) (E : Ex Z X 0 0 0 (some (.int r)) Z μ') : G Z X 5 0 0 0 [(0, .ref (za Z a0)), (1, .int a1), (2, .int a2), (3, .int a3)] [] μ := by
  unfold f_X5_changeRow at h
  refine g_aload_n C (i := 0) 0 rfl rfl (dk kX5_changeRow 0 rfl) ?_
  obtain ⟨b1, eb1, h⟩ := bd_inv h
  obtain ⟨rb1, kb1⟩ := rf_inv eb1
  refine gR_4_3 C k0 (C.w wd_1_174) rb1 (dk kX5_changeRow 1 rfl) ?_
  refine g_iload_n C (i := 1) 1 rfl rfl (dk kX5_changeRow 2 rfl) ?_
  obtain ⟨c2, h⟩ := gd_inv h
  obtain ⟨b3, eb3, h⟩ := bd_inv h
  obtain ⟨rb3, kb3⟩ := rf_inv eb3
  refine gA_10 C kb1 c2 rb3 (dk kX5_changeRow 3 rfl) ?_
  obtain ⟨b4, eb4, h⟩ := bd_inv h
  obtain ⟨rb4, kb4⟩ := rf_inv eb4
  refine gRN_3_4 C kb3 (nf_17 C) rb4 (dk kX5_changeRow 4 rfl) ?_
  refine g_iload_n C (i := 2) 2 rfl rfl (dk kX5_changeRow 5 rfl) ?_
  obtain ⟨c5, h⟩ := gd_inv h
  refine g_iald C kb4 c5 (dk kX5_changeRow 6 rfl) ?_
  obtain ⟨x6, ex6, h⟩ := lt_inv h
  refine g_nmi ex6 ?_
  refine g_istore C (i := 4) (lv' := [(4, .int x6), (0, .ref (za Z a0)), (1, .int a1), (2, .int a2), (3, .int a3)]) (dk kX5_changeRow 7 rfl) (by decide) rfl ?_
  refine g_aload_n C (i := 0) 1 rfl rfl (dk kX5_changeRow 8 rfl) ?_
  obtain ⟨b7, eb7, h⟩ := bd_inv h
  obtain ⟨rb7, kb7⟩ := rf_inv eb7
  refine gR_4_3 C k0 (C.w wd_1_174) rb7 (dk kX5_changeRow 9 rfl) ?_
  refine g_iload_n C (i := 1) 2 rfl rfl (dk kX5_changeRow 10 rfl) ?_
  obtain ⟨c8, h⟩ := gd_inv h
  obtain ⟨b9, eb9, h⟩ := bd_inv h
  obtain ⟨rb9, kb9⟩ := rf_inv eb9
  refine gA_10 C kb7 c8 rb9 (dk kX5_changeRow 11 rfl) ?_
  obtain ⟨b10, eb10, h⟩ := bd_inv h
  obtain ⟨rb10, kb10⟩ := rf_inv eb10
  refine gRN_3_4 C kb9 (nf_17 C) rb10 (dk kX5_changeRow 12 rfl) ?_
  refine g_iload_n C (i := 2) 3 rfl rfl (dk kX5_changeRow 13 rfl) ?_
  refine g_iload_n C (i := 3) 4 rfl rfl (dk kX5_changeRow 14 rfl) ?_
  obtain ⟨c11, h⟩ := gd_inv h
  obtain ⟨μ12, eμ12, h⟩ := lt_inv h
  refine g_iast C kb10 c11 eμ12 (dk kX5_changeRow 15 rfl) ?_
  refine g_iload C (i := 4) 0 rfl (dk kX5_changeRow 16 rfl) ?_
  cases h
  exact g_iret C E rfl rfl (Nat.le_refl 0) (Nat.le_refl 0) (dk kX5_changeRow 17 rfl)
theorem ct_X5_changeRow {l : Launch} {Z : ZZ} {μ : Mm} {a0 : Nat} {a1 : Int32} {a2 : Int32} {a3 : Int32} {r : Int32} {μ' : Mm} (k0 : (zk Z a0).1 = 4) (h : f_X5_changeRow (zk Z) μ a0 a1 a2 a3 = some (r, μ')) : CtM l Z false yX5_changeRow cX5_changeRow 5 (some .int) 0 0 0 [.ref (za Z a0), .int a1, .int a2, .int a3] μ (some (.int r)) Z μ' := ct_of rfl rfl (Nat.le_of_ble_eq_true rfl) (fun X C E => t_X5_changeRow μ a0 a1 a2 a3 r μ' k0 h C E)

def qX5_newCustomer : List (Nat × Instr × Nat) := [(0, .aload_n 0, 1), (1, .dup, 1), (2, .getfield 62, 3), (5, .iconst 1, 1), (6, .iadd, 1), (7, .putfield 62, 3), (10, .aload_n 0, 1), (11, .getfield 62, 3), (14, .iconst 1, 1), (15, .isub, 1), (16, .ireturn, 1)]
theorem kX5_newCustomer : ∀ q ∈ qX5_newCustomer, decode cX5_newCustomer q.1 = .ok q.2 := by decide +kernel
def f_X5_newCustomer (K : Nat → Nat × Nat) (μ : Mm) (a0 : Nat) : Option (Int32 × Mm) :=
  lt1 (sI μ a0 6 ((μ.1 a0 6) + 1)) fun μ1 => some (((μ1.1 a0 6) - 1), μ1)
set_option maxRecDepth 100000 in
set_option maxHeartbeats 4000000 in
theorem t_X5_newCustomer {l : Launch} {Z : ZZ} {X : XX} (μ : Mm) (a0 : Nat) (r : Int32) (μ' : Mm) (k0 : (zk Z a0).1 = 4) (h : f_X5_newCustomer (zk Z) μ a0 = some (r, μ')) (C : Cx l Z false X cX5_newCustomer RX5 1 (some .int)) (E : Ex Z X 0 0 0 (some (.int r)) Z μ') : G Z X 1 0 0 0 [(0, .ref (za Z a0))] [] μ := by
  unfold f_X5_newCustomer at h
  refine g_aload_n C (i := 0) 0 rfl rfl (dk kX5_newCustomer 0 rfl) ?_
  refine g_dup C rfl (dk kX5_newCustomer 1 rfl) ?_
  refine gI_4_6 C k0 (C.w wd_1_180) (dk kX5_newCustomer 2 rfl) ?_
  refine g_iconst C (v := 1) (by decide) (dk kX5_newCustomer 3 rfl) ?_
  refine g_iadd C (dk kX5_newCustomer 4 rfl) ?_
  obtain ⟨μ1, eμ1, h⟩ := lt_inv h
  refine pI_4_6 C k0 (C.w wd_1_180) eμ1 (dk kX5_newCustomer 5 rfl) ?_
  refine g_aload_n C (i := 0) 0 rfl rfl (dk kX5_newCustomer 6 rfl) ?_
  refine gI_4_6 C k0 (C.w wd_1_180) (dk kX5_newCustomer 7 rfl) ?_
  refine g_iconst C (v := 1) (by decide) (dk kX5_newCustomer 8 rfl) ?_
  refine g_isub C (dk kX5_newCustomer 9 rfl) ?_
  cases h
  exact g_iret C E rfl rfl (Nat.le_refl 0) (Nat.le_refl 0) (dk kX5_newCustomer 10 rfl)
theorem ct_X5_newCustomer {l : Launch} {Z : ZZ} {μ : Mm} {a0 : Nat} {r : Int32} {μ' : Mm} (k0 : (zk Z a0).1 = 4) (h : f_X5_newCustomer (zk Z) μ a0 = some (r, μ')) : CtM l Z false yX5_newCustomer cX5_newCustomer 1 (some .int) 0 0 0 [.ref (za Z a0)] μ (some (.int r)) Z μ' := ct_of rfl rfl (Nat.le_of_ble_eq_true rfl) (fun X C E => t_X5_newCustomer μ a0 r μ' k0 h C E)

def qX5_let : List (Nat × Instr × Nat) := [(0, .aload_n 0, 1), (1, .getfield 30, 3), (4, .iload_n 1, 1), (5, .aaload, 1), (6, .iload_n 2, 1), (7, .putfield 126, 3), (10, .aload_n 0, 1), (11, .getfield 30, 3), (14, .iload_n 1, 1), (15, .aaload, 1), (16, .iload_n 3, 1), (17, .putfield 129, 3), (20, .aload_n 0, 1), (21, .invokevirtual 132, 3), (24, .ireturn, 1)]
theorem kX5_let : ∀ q ∈ qX5_let, decode cX5_let q.1 = .ok q.2 := by decide +kernel
def f_X5_let (K : Nat → Nat × Nat) (μ : Mm) (a0 : Nat) (a1 : Int32) (a2 : Int32) (a3 : Int32) : Option (Int32 × Mm) :=
  bd (rf K μ a0 5 9) fun b1 => gd (inb a1 (K b1).2) <| bd (rf K μ b1 (ix a1) 1) fun b3 => lt1 (sI μ b3 0 a2) fun μ4 => bd (rf K μ4 a0 5 9) fun b5 => gd (inb a1 (K b5).2) <| bd (rf K μ4 b5 (ix a1) 1) fun b7 => lt1 (sI μ4 b7 1 a3) fun μ8 => bd (f_X5_allRented K μ8 a0) fun x10 => some (x10, μ8)
set_option maxRecDepth 100000 in
set_option maxHeartbeats 4000000 in
theorem t_X5_let {l : Launch} {Z : ZZ} {X : XX} (μ : Mm) (a0 : Nat) (a1 : Int32) (a2 : Int32) (a3 : Int32) (r : Int32) (μ' : Mm) (k0 : (zk Z a0).1 = 4) (h : f_X5_let (zk Z) μ a0 a1 a2 a3 = some (r, μ')) (C : Cx l Z false X cX5_let RX5 4 (some .int)) (E : Ex Z X 2 0 0 (some (.int r)) Z μ') : G Z X 4 0 0 0 [(0, .ref (za Z a0)), (1, .int a1), (2, .int a2), (3, .int a3)] [] μ := by
  unfold f_X5_let at h
  refine g_aload_n C (i := 0) 0 rfl rfl (dk kX5_let 0 rfl) ?_
  obtain ⟨b1, eb1, h⟩ := bd_inv h
  obtain ⟨rb1, kb1⟩ := rf_inv eb1
  refine gR_4_5 C k0 (C.w wd_1_178) rb1 (dk kX5_let 1 rfl) ?_
  refine g_iload_n C (i := 1) 1 rfl rfl (dk kX5_let 2 rfl) ?_
  obtain ⟨c2, h⟩ := gd_inv h
  obtain ⟨b3, eb3, h⟩ := bd_inv h
  obtain ⟨rb3, kb3⟩ := rf_inv eb3
  refine gA_9 C kb1 c2 rb3 (dk kX5_let 3 rfl) ?_
  refine g_iload_n C (i := 2) 2 rfl rfl (dk kX5_let 4 rfl) ?_
  obtain ⟨μ4, eμ4, h⟩ := lt_inv h
  refine pIN_1_0 C kb3 (nf_19 C) eμ4 (dk kX5_let 5 rfl) ?_
  refine g_aload_n C (i := 0) 0 rfl rfl (dk kX5_let 6 rfl) ?_
  obtain ⟨b5, eb5, h⟩ := bd_inv h
  obtain ⟨rb5, kb5⟩ := rf_inv eb5
  refine gR_4_5 C k0 (C.w wd_1_178) rb5 (dk kX5_let 7 rfl) ?_
  refine g_iload_n C (i := 1) 1 rfl rfl (dk kX5_let 8 rfl) ?_
  obtain ⟨c6, h⟩ := gd_inv h
  obtain ⟨b7, eb7, h⟩ := bd_inv h
  obtain ⟨rb7, kb7⟩ := rf_inv eb7
  refine gA_9 C kb5 c6 rb7 (dk kX5_let 9 rfl) ?_
  refine g_iload_n C (i := 3) 3 rfl rfl (dk kX5_let 10 rfl) ?_
  obtain ⟨μ8, eμ8, h⟩ := lt_inv h
  refine pIN_1_1 C kb7 (nf_20 C) eμ8 (dk kX5_let 11 rfl) ?_
  refine g_aload_n C (i := 0) 0 rfl rfl (dk kX5_let 12 rfl) ?_
  obtain ⟨x10, eq9, h⟩ := bd_inv h
  refine g_callV C E.2 (rest := []) 0 (ct_X5_allRented k0 eq9) wd_3_52 mm_X5_allRented ⟨rfl, by decide, by decide, by decide⟩ rfl (by decide) k0 (by decide) rfl rfl (Nat.le_of_ble_eq_true rfl) (by decide) (dk kX5_let 13 rfl) ?_
  cases h
  exact g_iret C E rfl rfl (Nat.le_refl 0) (Nat.le_refl 0) (dk kX5_let 14 rfl)
theorem ct_X5_let {l : Launch} {Z : ZZ} {μ : Mm} {a0 : Nat} {a1 : Int32} {a2 : Int32} {a3 : Int32} {r : Int32} {μ' : Mm} (k0 : (zk Z a0).1 = 4) (h : f_X5_let (zk Z) μ a0 a1 a2 a3 = some (r, μ')) : CtM l Z false yX5_let cX5_let 4 (some .int) 2 0 0 [.ref (za Z a0), .int a1, .int a2, .int a3] μ (some (.int r)) Z μ' := ct_of rfl rfl (Nat.le_of_ble_eq_true rfl) (fun X C E => t_X5_let μ a0 a1 a2 a3 r μ' k0 h C E)

def qX5_printAt : List (Nat × Instr × Nat) := [(0, .aload_n 0, 1), (1, .iload_n 1, 1), (2, .iload_n 2, 1), (3, .iload_n 3, 1), (4, .invokevirtual 145, 3), (7, .istore 4, 2), (9, .aload_n 0, 1), (10, .getfield 12, 3), (13, .aload_n 0, 1), (14, .getfield 24, 3), (17, .iload_n 2, 1), (18, .aaload, 1), (19, .iload_n 3, 1), (20, .aload_n 0, 1), (21, .getfield 18, 3), (24, .invokevirtual 148, 3), (27, .istore 5, 2), (29, .aload_n 0, 1), (30, .dup, 1), (31, .getfield 65, 3), (34, .bipush 6, 2), (36, .iadd, 1), (37, .putfield 65, 3), (40, .aload_n 0, 1), (41, .aload_n 0, 1), (42, .getfield 30, 3), (45, .iload_n 1, 1), (46, .aaload, 1), (47, .aload_n 0, 1), (48, .getfield 24, 3), (51, .iload_n 2, 1), (52, .aaload, 1), (53, .iload 4, 2), (55, .iload 5, 2), (57, .aload_n 0, 1), (58, .getfield 18, 3), (61, .iconst 5, 1), (62, .iaload, 1), (63, .if_icmp .le 7, 3), (66, .iconst 1, 1), (67, .goto 4, 3), (70, .iconst 0, 1), (71, .invokevirtual 152, 3), (74, .iload 5, 2), (76, .ireturn, 1)]
theorem kX5_printAt : ∀ q ∈ qX5_printAt, decode cX5_printAt q.1 = .ok q.2 := by decide +kernel
def f_X5_printAt (K : Nat → Nat × Nat) (μ : Mm) (a0 : Nat) (a1 : Int32) (a2 : Int32) (a3 : Int32) : Option (Int32 × Mm) :=
  bd (f_X5_priceAt K μ a0 a1 a2 a3) fun x2 => bd (rf K μ a0 0 2) fun b3 => bd (rf K μ a0 3 10) fun b4 => gd (inb a2 (K b4).2) <| bd (rf K μ b4 (ix a2) 3) fun b6 => bd (rf K μ a0 2 8) fun b7 => bd (f_X3_printRows K μ b3 b6 a3 b7) fun q8 => lt1 q8.1 fun x10 => lt1 q8.2 fun μ9 => lt1 (sI μ9 a0 7 ((μ9.1 a0 7) + 6)) fun μ11 => bd (rf K μ11 a0 5 9) fun b12 => gd (inb a1 (K b12).2) <| bd (rf K μ11 b12 (ix a1) 1) fun b14 => bd (rf K μ11 a0 3 10) fun b15 => gd (inb a2 (K b15).2) <| bd (rf K μ11 b15 (ix a2) 3) fun b17 => bd (rf K μ11 a0 2 8) fun b18 => gd (inb 5 (K b18).2) <| lt1 (α := Int32) (if x10 ≤ (μ11.1 b18 (ix 5)) then 0 else 1) fun x20 => bd (f_X5_book K μ11 a0 b14 b17 x2 x20) fun μ23 => some (x10, μ23)
set_option maxRecDepth 100000 in
set_option maxHeartbeats 4000000 in
theorem t_X5_printAt {l : Launch} {Z : ZZ} {X : XX} (μ : Mm) (a0 : Nat) (a1 : Int32) (a2 : Int32) (a3 : Int32) (r : Int32) (μ' : Mm) (k0 : (zk Z a0).1 = 4) (h : f_X5_printAt (zk Z) μ a0 a1 a2 a3 = some (r, μ')) (C : Cx l Z false X cX5_printAt RX5 6 (some .int)) (E : Ex Z X 3 0 0 (some (.int r)) Z μ') : G Z X 6 0 0 0 [(0, .ref (za Z a0)), (1, .int a1), (2, .int a2), (3, .int a3)] [] μ := by
  unfold f_X5_printAt at h
  refine g_aload_n C (i := 0) 0 rfl rfl (dk kX5_printAt 0 rfl) ?_
  refine g_iload_n C (i := 1) 1 rfl rfl (dk kX5_printAt 1 rfl) ?_
  refine g_iload_n C (i := 2) 2 rfl rfl (dk kX5_printAt 2 rfl) ?_
  refine g_iload_n C (i := 3) 3 rfl rfl (dk kX5_printAt 3 rfl) ?_
  obtain ⟨x2, eq1, h⟩ := bd_inv h
  refine g_callV C E.2 (rest := []) 3 (ct_X5_priceAt k0 eq1) wd_2_221 mm_X5_priceAt ⟨rfl, by decide, by decide, by decide⟩ rfl (by decide) k0 (by decide) rfl rfl (Nat.le_of_ble_eq_true rfl) (by decide) (dk kX5_printAt 4 rfl) ?_
  refine g_istore C (i := 4) (lv' := [(4, .int x2), (0, .ref (za Z a0)), (1, .int a1), (2, .int a2), (3, .int a3)]) (dk kX5_printAt 5 rfl) (by decide) rfl ?_
  refine g_aload_n C (i := 0) 1 rfl rfl (dk kX5_printAt 6 rfl) ?_
  obtain ⟨b3, eb3, h⟩ := bd_inv h
  obtain ⟨rb3, kb3⟩ := rf_inv eb3
  refine gR_4_0 C k0 (C.w wd_1_170) rb3 (dk kX5_printAt 7 rfl) ?_
  refine g_aload_n C (i := 0) 1 rfl rfl (dk kX5_printAt 8 rfl) ?_
  obtain ⟨b4, eb4, h⟩ := bd_inv h
  obtain ⟨rb4, kb4⟩ := rf_inv eb4
  refine gR_4_3 C k0 (C.w wd_1_174) rb4 (dk kX5_printAt 9 rfl) ?_
  refine g_iload_n C (i := 2) 3 rfl rfl (dk kX5_printAt 10 rfl) ?_
  obtain ⟨c5, h⟩ := gd_inv h
  obtain ⟨b6, eb6, h⟩ := bd_inv h
  obtain ⟨rb6, kb6⟩ := rf_inv eb6
  refine gA_10 C kb4 c5 rb6 (dk kX5_printAt 11 rfl) ?_
  refine g_iload_n C (i := 3) 4 rfl rfl (dk kX5_printAt 12 rfl) ?_
  refine g_aload_n C (i := 0) 1 rfl rfl (dk kX5_printAt 13 rfl) ?_
  obtain ⟨b7, eb7, h⟩ := bd_inv h
  obtain ⟨rb7, kb7⟩ := rf_inv eb7
  refine gR_4_2 C k0 (C.w wd_1_173) rb7 (dk kX5_printAt 14 rfl) ?_
  obtain ⟨q8, eq8, h⟩ := bd_inv h
  obtain ⟨x10, ex10, h⟩ := lt_inv h
  obtain ⟨μ9, eμ9, h⟩ := lt_inv h
  rw [show q8 = (x10, μ9) from by rw [ex10, eμ9]] at eq8
  refine g_callV C E.2 (rest := []) 3 (ct_X3_printRows kb3 kb6 kb7 eq8) wd_2_205 mm_X3_printRows ⟨rfl, by decide, by decide, by decide⟩ rfl (by decide) kb3 (by decide) rfl rfl (Nat.le_of_ble_eq_true rfl) (by decide) (dk kX5_printAt 15 rfl) ?_
  refine g_istore C (i := 5) (lv' := [(5, .int x10), (4, .int x2), (0, .ref (za Z a0)), (1, .int a1), (2, .int a2), (3, .int a3)]) (dk kX5_printAt 16 rfl) (by decide) rfl ?_
  refine g_aload_n C (i := 0) 2 rfl rfl (dk kX5_printAt 17 rfl) ?_
  refine g_dup C rfl (dk kX5_printAt 18 rfl) ?_
  refine gI_4_7 C k0 (C.w wd_1_182) (dk kX5_printAt 19 rfl) ?_
  refine g_bipush C (v := 6) (by decide) (dk kX5_printAt 20 rfl) ?_
  refine g_iadd C (dk kX5_printAt 21 rfl) ?_
  obtain ⟨μ11, eμ11, h⟩ := lt_inv h
  refine pI_4_7 C k0 (C.w wd_1_182) eμ11 (dk kX5_printAt 22 rfl) ?_
  refine g_aload_n C (i := 0) 2 rfl rfl (dk kX5_printAt 23 rfl) ?_
  refine g_aload_n C (i := 0) 2 rfl rfl (dk kX5_printAt 24 rfl) ?_
  obtain ⟨b12, eb12, h⟩ := bd_inv h
  obtain ⟨rb12, kb12⟩ := rf_inv eb12
  refine gR_4_5 C k0 (C.w wd_1_178) rb12 (dk kX5_printAt 25 rfl) ?_
  refine g_iload_n C (i := 1) 3 rfl rfl (dk kX5_printAt 26 rfl) ?_
  obtain ⟨c13, h⟩ := gd_inv h
  obtain ⟨b14, eb14, h⟩ := bd_inv h
  obtain ⟨rb14, kb14⟩ := rf_inv eb14
  refine gA_9 C kb12 c13 rb14 (dk kX5_printAt 27 rfl) ?_
  refine g_aload_n C (i := 0) 2 rfl rfl (dk kX5_printAt 28 rfl) ?_
  obtain ⟨b15, eb15, h⟩ := bd_inv h
  obtain ⟨rb15, kb15⟩ := rf_inv eb15
  refine gR_4_3 C k0 (C.w wd_1_174) rb15 (dk kX5_printAt 29 rfl) ?_
  refine g_iload_n C (i := 2) 4 rfl rfl (dk kX5_printAt 30 rfl) ?_
  obtain ⟨c16, h⟩ := gd_inv h
  obtain ⟨b17, eb17, h⟩ := bd_inv h
  obtain ⟨rb17, kb17⟩ := rf_inv eb17
  refine gA_10 C kb15 c16 rb17 (dk kX5_printAt 31 rfl) ?_
  refine g_iload C (i := 4) 1 rfl (dk kX5_printAt 32 rfl) ?_
  refine g_iload C (i := 5) 0 rfl (dk kX5_printAt 33 rfl) ?_
  refine g_aload_n C (i := 0) 2 rfl rfl (dk kX5_printAt 34 rfl) ?_
  obtain ⟨b18, eb18, h⟩ := bd_inv h
  obtain ⟨rb18, kb18⟩ := rf_inv eb18
  refine gR_4_2 C k0 (C.w wd_1_173) rb18 (dk kX5_printAt 35 rfl) ?_
  refine g_iconst C (v := 5) (by decide) (dk kX5_printAt 36 rfl) ?_
  obtain ⟨c19, h⟩ := gd_inv h
  refine g_iald C kb18 c19 (dk kX5_printAt 37 rfl) ?_
  obtain ⟨x20, ex20, h⟩ := lt_inv h
  have kj21 : G Z X 6 0 0 71 [(5, .int x10), (4, .int x2), (0, .ref (za Z a0)), (1, .int a1), (2, .int a2), (3, .int a3)] [.int x20, .int x2, .ref (za Z b17), .ref (za Z b14), .ref (za Z a0)] μ11 := by
    obtain ⟨μ23, eq22, h⟩ := bd_inv h
    refine g_callV C E.2 (rest := []) 4 (ct_X5_book k0 kb14 kb17 eq22) wd_3_64 mm_X5_book ⟨rfl, by decide, by decide, by decide⟩ rfl (by decide) k0 (by decide) rfl rfl (Nat.le_of_ble_eq_true rfl) (by decide) (dk kX5_printAt 42 rfl) ?_
    refine g_iload C (i := 5) 0 rfl (dk kX5_printAt 43 rfl) ?_
    cases h
    exact g_iret C E rfl rfl (Nat.le_refl 0) (Nat.le_refl 0) (dk kX5_printAt 44 rfl)
  clear h
  refine g_icmp_le C (tgt := 70) (dk kX5_printAt 38 rfl) (by decide) (fun c24 => ?_) (fun c24 => ?_)
  · refine g_iconst C (v := 0) (by decide) (dk kX5_printAt 41 rfl) ?_
    exact g_nmi (by rw [ex20, if_pos c24]) kj21
  · refine g_iconst C (v := 1) (by decide) (dk kX5_printAt 39 rfl) ?_
    refine g_goto C (tgt := 71) (dk kX5_printAt 40 rfl) (by decide) ?_
    exact g_nmi (by rw [ex20, if_neg c24]) kj21
theorem ct_X5_printAt {l : Launch} {Z : ZZ} {μ : Mm} {a0 : Nat} {a1 : Int32} {a2 : Int32} {a3 : Int32} {r : Int32} {μ' : Mm} (k0 : (zk Z a0).1 = 4) (h : f_X5_printAt (zk Z) μ a0 a1 a2 a3 = some (r, μ')) : CtM l Z false yX5_printAt cX5_printAt 6 (some .int) 3 0 0 [.ref (za Z a0), .int a1, .int a2, .int a3] μ (some (.int r)) Z μ' := ct_of rfl rfl (Nat.le_of_ble_eq_true rfl) (fun X C E => t_X5_printAt μ a0 a1 a2 a3 r μ' k0 h C E)

def qX5_printAtBest : List (Nat × Instr × Nat) := [(0, .aload_n 0, 1), (1, .iload_n 1, 1), (2, .iload_n 2, 1), (3, .invokevirtual 174, 3), (6, .istore_n 3, 1), (7, .iload_n 3, 1), (8, .iconst (-1), 1), (9, .if_icmp .eq 11, 3), (12, .aload_n 0, 1), (13, .iload_n 1, 1), (14, .iload_n 2, 1), (15, .iload_n 3, 1), (16, .invokevirtual 177, 3), (19, .pop, 1), (20, .iload_n 3, 1), (21, .ireturn, 1)]
theorem kX5_printAtBest : ∀ q ∈ qX5_printAtBest, decode cX5_printAtBest q.1 = .ok q.2 := by decide +kernel
def f_X5_printAtBest (K : Nat → Nat × Nat) (μ : Mm) (a0 : Nat) (a1 : Int32) (a2 : Int32) : Option (Int32 × Mm) :=
  bd (f_X5_bestPlace K μ a0 a1 a2) fun q1 => lt1 q1.1 fun x3 => lt1 q1.2 fun μ2 => if x3 = (-1) then (some (x3, μ2)) else (bd (f_X5_printAt K μ2 a0 a1 a2 x3) fun q5 => lt1 q5.1 fun x7 => lt1 q5.2 fun μ6 => some (x3, μ6))
set_option maxRecDepth 100000 in
set_option maxHeartbeats 4000000 in
theorem t_X5_printAtBest {l : Launch} {Z : ZZ} {X : XX} (μ : Mm) (a0 : Nat) (a1 : Int32) (a2 : Int32) (r : Int32) (μ' : Mm) (k0 : (zk Z a0).1 = 4) (h : f_X5_printAtBest (zk Z) μ a0 a1 a2 = some (r, μ')) (C : Cx l Z false X cX5_printAtBest RX5 4 (some .int)) (E : Ex Z X 4 0 0 (some (.int r)) Z μ') : G Z X 4 0 0 0 [(0, .ref (za Z a0)), (1, .int a1), (2, .int a2)] [] μ := by
  unfold f_X5_printAtBest at h
  refine g_aload_n C (i := 0) 0 rfl rfl (dk kX5_printAtBest 0 rfl) ?_
  refine g_iload_n C (i := 1) 1 rfl rfl (dk kX5_printAtBest 1 rfl) ?_
  refine g_iload_n C (i := 2) 2 rfl rfl (dk kX5_printAtBest 2 rfl) ?_
  obtain ⟨q1, eq1, h⟩ := bd_inv h
  obtain ⟨x3, ex3, h⟩ := lt_inv h
  obtain ⟨μ2, eμ2, h⟩ := lt_inv h
  rw [show q1 = (x3, μ2) from by rw [ex3, eμ2]] at eq1
  refine g_callV C E.2 (rest := []) 2 (ct_X5_bestPlace k0 eq1) wd_2_193 mm_X5_bestPlace ⟨rfl, by decide, by decide, by decide⟩ rfl (by decide) k0 (by decide) rfl rfl (Nat.le_of_ble_eq_true rfl) (by decide) (dk kX5_printAtBest 3 rfl) ?_
  refine g_istore_n C (i := 3) (lv' := [(3, .int x3), (0, .ref (za Z a0)), (1, .int a1), (2, .int a2)]) (dk kX5_printAtBest 4 rfl) rfl (by decide) rfl ?_
  refine g_iload_n C (i := 3) 0 rfl rfl (dk kX5_printAtBest 5 rfl) ?_
  refine g_iconst C (v := (-1)) (by decide) (dk kX5_printAtBest 6 rfl) ?_
  refine g_icmp_eq C (tgt := 20) (dk kX5_printAtBest 7 rfl) (by decide) (fun c4 => ?_) (fun c4 => ?_)
  · replace h := ite_t h c4
    refine g_iload_n C (i := 3) 0 rfl rfl (dk kX5_printAtBest 14 rfl) ?_
    cases h
    exact g_iret C E rfl rfl (Nat.le_refl 0) (Nat.le_refl 0) (dk kX5_printAtBest 15 rfl)
  · replace h := ite_f h c4
    refine g_aload_n C (i := 0) 1 rfl rfl (dk kX5_printAtBest 8 rfl) ?_
    refine g_iload_n C (i := 1) 2 rfl rfl (dk kX5_printAtBest 9 rfl) ?_
    refine g_iload_n C (i := 2) 3 rfl rfl (dk kX5_printAtBest 10 rfl) ?_
    refine g_iload_n C (i := 3) 0 rfl rfl (dk kX5_printAtBest 11 rfl) ?_
    obtain ⟨q5, eq5, h⟩ := bd_inv h
    obtain ⟨x7, ex7, h⟩ := lt_inv h
    obtain ⟨μ6, eμ6, h⟩ := lt_inv h
    rw [show q5 = (x7, μ6) from by rw [ex7, eμ6]] at eq5
    refine g_callV C E.2 (rest := []) 3 (ct_X5_printAt k0 eq5) wd_3_60 mm_X5_printAt ⟨rfl, by decide, by decide, by decide⟩ rfl (by decide) k0 (by decide) rfl rfl (Nat.le_of_ble_eq_true rfl) (by decide) (dk kX5_printAtBest 12 rfl) ?_
    refine g_pop C rfl (dk kX5_printAtBest 13 rfl) ?_
    refine g_iload_n C (i := 3) 0 rfl rfl (dk kX5_printAtBest 14 rfl) ?_
    cases h
    exact g_iret C E rfl rfl (Nat.le_refl 0) (Nat.le_refl 0) (dk kX5_printAtBest 15 rfl)
theorem ct_X5_printAtBest {l : Launch} {Z : ZZ} {μ : Mm} {a0 : Nat} {a1 : Int32} {a2 : Int32} {r : Int32} {μ' : Mm} (k0 : (zk Z a0).1 = 4) (h : f_X5_printAtBest (zk Z) μ a0 a1 a2 = some (r, μ')) : CtM l Z false yX5_printAtBest cX5_printAtBest 4 (some .int) 4 0 0 [.ref (za Z a0), .int a1, .int a2] μ (some (.int r)) Z μ' := ct_of rfl rfl (Nat.le_of_ble_eq_true rfl) (fun X C E => t_X5_printAtBest μ a0 a1 a2 r μ' k0 h C E)

def qX5_passLines : List (Nat × Instr × Nat) := [(0, .aload_n 0, 1), (1, .getfield 12, 3), (4, .iload_n 1, 1), (5, .aload_n 0, 1), (6, .getfield 18, 3), (9, .iconst 0, 1), (10, .iaload, 1), (11, .imul, 1), (12, .invokevirtual 113, 3), (15, .aload_n 0, 1), (16, .dup, 1), (17, .getfield 65, 3), (20, .iload_n 1, 1), (21, .iadd, 1), (22, .putfield 65, 3), (25, .aload_n 0, 1), (26, .getfield 12, 3), (29, .invokevirtual 116, 3), (32, .ireturn, 1)]
theorem kX5_passLines : ∀ q ∈ qX5_passLines, decode cX5_passLines q.1 = .ok q.2 := by decide +kernel
def f_X5_passLines (K : Nat → Nat × Nat) (μ : Mm) (a0 : Nat) (a1 : Int32) : Option (Int32 × Mm) :=
  bd (rf K μ a0 0 2) fun b1 => bd (rf K μ a0 2 8) fun b2 => gd (inb 0 (K b2).2) <| bd (f_X3_lose K μ b1 (a1 * (μ.1 b2 (ix 0)))) fun μ5 => lt1 (sI μ5 a0 7 ((μ5.1 a0 7) + a1)) fun μ6 => bd (rf K μ6 a0 0 2) fun b7 => bd (f_X3_heatSum K μ6 b7) fun x9 => some (x9, μ6)
set_option maxRecDepth 100000 in
set_option maxHeartbeats 4000000 in
theorem t_X5_passLines {l : Launch} {Z : ZZ} {X : XX} (μ : Mm) (a0 : Nat) (a1 : Int32) (r : Int32) (μ' : Mm) (k0 : (zk Z a0).1 = 4) (h : f_X5_passLines (zk Z) μ a0 a1 = some (r, μ')) (C : Cx l Z false X cX5_passLines RX5 2 (some .int)) (E : Ex Z X 1 0 0 (some (.int r)) Z μ') : G Z X 2 0 0 0 [(0, .ref (za Z a0)), (1, .int a1)] [] μ := by
  unfold f_X5_passLines at h
  refine g_aload_n C (i := 0) 0 rfl rfl (dk kX5_passLines 0 rfl) ?_
  obtain ⟨b1, eb1, h⟩ := bd_inv h
  obtain ⟨rb1, kb1⟩ := rf_inv eb1
  refine gR_4_0 C k0 (C.w wd_1_170) rb1 (dk kX5_passLines 1 rfl) ?_
  refine g_iload_n C (i := 1) 1 rfl rfl (dk kX5_passLines 2 rfl) ?_
  refine g_aload_n C (i := 0) 0 rfl rfl (dk kX5_passLines 3 rfl) ?_
  obtain ⟨b2, eb2, h⟩ := bd_inv h
  obtain ⟨rb2, kb2⟩ := rf_inv eb2
  refine gR_4_2 C k0 (C.w wd_1_173) rb2 (dk kX5_passLines 4 rfl) ?_
  refine g_iconst C (v := 0) (by decide) (dk kX5_passLines 5 rfl) ?_
  obtain ⟨c3, h⟩ := gd_inv h
  refine g_iald C kb2 c3 (dk kX5_passLines 6 rfl) ?_
  refine g_imul C (dk kX5_passLines 7 rfl) ?_
  obtain ⟨μ5, eq4, h⟩ := bd_inv h
  refine g_callV C E.2 (rest := []) 1 (ct_X3_lose kb1 eq4) wd_3_76 mm_X3_lose ⟨rfl, by decide, by decide, by decide⟩ rfl (by decide) kb1 (by decide) rfl rfl (Nat.le_of_ble_eq_true rfl) (by decide) (dk kX5_passLines 8 rfl) ?_
  refine g_aload_n C (i := 0) 0 rfl rfl (dk kX5_passLines 9 rfl) ?_
  refine g_dup C rfl (dk kX5_passLines 10 rfl) ?_
  refine gI_4_7 C k0 (C.w wd_1_182) (dk kX5_passLines 11 rfl) ?_
  refine g_iload_n C (i := 1) 1 rfl rfl (dk kX5_passLines 12 rfl) ?_
  refine g_iadd C (dk kX5_passLines 13 rfl) ?_
  obtain ⟨μ6, eμ6, h⟩ := lt_inv h
  refine pI_4_7 C k0 (C.w wd_1_182) eμ6 (dk kX5_passLines 14 rfl) ?_
  refine g_aload_n C (i := 0) 0 rfl rfl (dk kX5_passLines 15 rfl) ?_
  obtain ⟨b7, eb7, h⟩ := bd_inv h
  obtain ⟨rb7, kb7⟩ := rf_inv eb7
  refine gR_4_0 C k0 (C.w wd_1_170) rb7 (dk kX5_passLines 16 rfl) ?_
  obtain ⟨x9, eq8, h⟩ := bd_inv h
  refine g_callV C E.2 (rest := []) 0 (ct_X3_heatSum kb7 eq8) wd_3_77 mm_X3_heatSum ⟨rfl, by decide, by decide, by decide⟩ rfl (by decide) kb7 (by decide) rfl rfl (Nat.le_of_ble_eq_true rfl) (by decide) (dk kX5_passLines 17 rfl) ?_
  cases h
  exact g_iret C E rfl rfl (Nat.le_refl 0) (Nat.le_refl 0) (dk kX5_passLines 18 rfl)
theorem ct_X5_passLines {l : Launch} {Z : ZZ} {μ : Mm} {a0 : Nat} {a1 : Int32} {r : Int32} {μ' : Mm} (k0 : (zk Z a0).1 = 4) (h : f_X5_passLines (zk Z) μ a0 a1 = some (r, μ')) : CtM l Z false yX5_passLines cX5_passLines 2 (some .int) 1 0 0 [.ref (za Z a0), .int a1] μ (some (.int r)) Z μ' := ct_of rfl rfl (Nat.le_of_ble_eq_true rfl) (fun X C E => t_X5_passLines μ a0 a1 r μ' k0 h C E)

def qX5_newDot : List (Nat × Instr × Nat) := [(0, .aload_n 0, 1), (1, .getfield 12, 3), (4, .getfield 107, 3), (7, .iload_n 1, 1), (8, .iaload, 1), (9, .istore_n 2, 1), (10, .aload_n 0, 1), (11, .getfield 12, 3), (14, .iload_n 1, 1), (15, .invokevirtual 110, 3), (18, .iload_n 2, 1), (19, .ireturn, 1)]
theorem kX5_newDot : ∀ q ∈ qX5_newDot, decode cX5_newDot q.1 = .ok q.2 := by decide +kernel
def f_X5_newDot (K : Nat → Nat × Nat) (μ : Mm) (a0 : Nat) (a1 : Int32) : Option (Int32 × Mm) :=
  bd (rf K μ a0 0 2) fun b1 => bd (rf K μ b1 3 8) fun b2 => gd (inb a1 (K b2).2) <| lt1 (α := Int32) (μ.1 b2 (ix a1)) fun x4 => bd (rf K μ a0 0 2) fun b5 => bd (f_X3_renew K μ b5 a1) fun μ7 => some (x4, μ7)
set_option maxRecDepth 100000 in
set_option maxHeartbeats 4000000 in
theorem t_X5_newDot {l : Launch} {Z : ZZ} {X : XX} (μ : Mm) (a0 : Nat) (a1 : Int32) (r : Int32) (μ' : Mm) (k0 : (zk Z a0).1 = 4) (h : f_X5_newDot (zk Z) μ a0 a1 = some (r, μ')) (C : Cx l Z false X cX5_newDot RX5 3 (some .int)) (E : Ex Z X 1 0 0 (some (.int r)) Z μ') : G Z X 3 0 0 0 [(0, .ref (za Z a0)), (1, .int a1)] [] μ := by
  unfold f_X5_newDot at h
  refine g_aload_n C (i := 0) 0 rfl rfl (dk kX5_newDot 0 rfl) ?_
  obtain ⟨b1, eb1, h⟩ := bd_inv h
  obtain ⟨rb1, kb1⟩ := rf_inv eb1
  refine gR_4_0 C k0 (C.w wd_1_170) rb1 (dk kX5_newDot 1 rfl) ?_
  obtain ⟨b2, eb2, h⟩ := bd_inv h
  obtain ⟨rb2, kb2⟩ := rf_inv eb2
  refine gRN_2_3 C kb1 (nf_7 C) rb2 (dk kX5_newDot 2 rfl) ?_
  refine g_iload_n C (i := 1) 1 rfl rfl (dk kX5_newDot 3 rfl) ?_
  obtain ⟨c3, h⟩ := gd_inv h
  refine g_iald C kb2 c3 (dk kX5_newDot 4 rfl) ?_
  obtain ⟨x4, ex4, h⟩ := lt_inv h
  refine g_nmi ex4 ?_
  refine g_istore_n C (i := 2) (lv' := [(2, .int x4), (0, .ref (za Z a0)), (1, .int a1)]) (dk kX5_newDot 5 rfl) rfl (by decide) rfl ?_
  refine g_aload_n C (i := 0) 1 rfl rfl (dk kX5_newDot 6 rfl) ?_
  obtain ⟨b5, eb5, h⟩ := bd_inv h
  obtain ⟨rb5, kb5⟩ := rf_inv eb5
  refine gR_4_0 C k0 (C.w wd_1_170) rb5 (dk kX5_newDot 7 rfl) ?_
  refine g_iload_n C (i := 1) 2 rfl rfl (dk kX5_newDot 8 rfl) ?_
  obtain ⟨μ7, eq6, h⟩ := bd_inv h
  refine g_callV C E.2 (rest := []) 1 (ct_X3_renew kb5 eq6) wd_3_85 mm_X3_renew ⟨rfl, by decide, by decide, by decide⟩ rfl (by decide) kb5 (by decide) rfl rfl (Nat.le_of_ble_eq_true rfl) (by decide) (dk kX5_newDot 9 rfl) ?_
  refine g_iload_n C (i := 2) 0 rfl rfl (dk kX5_newDot 10 rfl) ?_
  cases h
  exact g_iret C E rfl rfl (Nat.le_refl 0) (Nat.le_refl 0) (dk kX5_newDot 11 rfl)
theorem ct_X5_newDot {l : Launch} {Z : ZZ} {μ : Mm} {a0 : Nat} {a1 : Int32} {r : Int32} {μ' : Mm} (k0 : (zk Z a0).1 = 4) (h : f_X5_newDot (zk Z) μ a0 a1 = some (r, μ')) : CtM l Z false yX5_newDot cX5_newDot 3 (some .int) 1 0 0 [.ref (za Z a0), .int a1] μ (some (.int r)) Z μ' := ct_of rfl rfl (Nat.le_of_ble_eq_true rfl) (fun X C E => t_X5_newDot μ a0 a1 r μ' k0 h C E)

def qX5_changeSetting : List (Nat × Instr × Nat) := [(0, .aload_n 0, 1), (1, .getfield 18, 3), (4, .iload_n 1, 1), (5, .iaload, 1), (6, .istore_n 3, 1), (7, .aload_n 0, 1), (8, .getfield 18, 3), (11, .iload_n 1, 1), (12, .iload_n 2, 1), (13, .iastore, 1), (14, .iload_n 3, 1), (15, .ireturn, 1)]
theorem kX5_changeSetting : ∀ q ∈ qX5_changeSetting, decode cX5_changeSetting q.1 = .ok q.2 := by decide +kernel
def f_X5_changeSetting (K : Nat → Nat × Nat) (μ : Mm) (a0 : Nat) (a1 : Int32) (a2 : Int32) : Option (Int32 × Mm) :=
  bd (rf K μ a0 2 8) fun b1 => gd (inb a1 (K b1).2) <| lt1 (α := Int32) (μ.1 b1 (ix a1)) fun x3 => bd (rf K μ a0 2 8) fun b4 => gd (inb a1 (K b4).2) <| lt1 (sI μ b4 (ix a1) a2) fun μ6 => some (x3, μ6)
set_option maxRecDepth 100000 in
set_option maxHeartbeats 4000000 in
theorem t_X5_changeSetting {l : Launch} {Z : ZZ} {X : XX} (μ : Mm) (a0 : Nat) (a1 : Int32) (a2 : Int32) (r : Int32) (μ' : Mm) (k0 : (zk Z a0).1 = 4) (h : f_X5_changeSetting (zk Z) μ a0 a1 a2 = some (r, μ')) (C : Cx l Z false X cX5_changeSetting RX5 4 (some .int)) (E : Ex Z X 0 0 0 (some (.int r)) Z μ') : G Z X 4 0 0 0 [(0, .ref (za Z a0)), (1, .int a1), (2, .int a2)] [] μ := by
  unfold f_X5_changeSetting at h
  refine g_aload_n C (i := 0) 0 rfl rfl (dk kX5_changeSetting 0 rfl) ?_
  obtain ⟨b1, eb1, h⟩ := bd_inv h
  obtain ⟨rb1, kb1⟩ := rf_inv eb1
  refine gR_4_2 C k0 (C.w wd_1_173) rb1 (dk kX5_changeSetting 1 rfl) ?_
  refine g_iload_n C (i := 1) 1 rfl rfl (dk kX5_changeSetting 2 rfl) ?_
  obtain ⟨c2, h⟩ := gd_inv h
  refine g_iald C kb1 c2 (dk kX5_changeSetting 3 rfl) ?_
  obtain ⟨x3, ex3, h⟩ := lt_inv h
  refine g_nmi ex3 ?_
  refine g_istore_n C (i := 3) (lv' := [(3, .int x3), (0, .ref (za Z a0)), (1, .int a1), (2, .int a2)]) (dk kX5_changeSetting 4 rfl) rfl (by decide) rfl ?_
  refine g_aload_n C (i := 0) 1 rfl rfl (dk kX5_changeSetting 5 rfl) ?_
  obtain ⟨b4, eb4, h⟩ := bd_inv h
  obtain ⟨rb4, kb4⟩ := rf_inv eb4
  refine gR_4_2 C k0 (C.w wd_1_173) rb4 (dk kX5_changeSetting 6 rfl) ?_
  refine g_iload_n C (i := 1) 2 rfl rfl (dk kX5_changeSetting 7 rfl) ?_
  refine g_iload_n C (i := 2) 3 rfl rfl (dk kX5_changeSetting 8 rfl) ?_
  obtain ⟨c5, h⟩ := gd_inv h
  obtain ⟨μ6, eμ6, h⟩ := lt_inv h
  refine g_iast C kb4 c5 eμ6 (dk kX5_changeSetting 9 rfl) ?_
  refine g_iload_n C (i := 3) 0 rfl rfl (dk kX5_changeSetting 10 rfl) ?_
  cases h
  exact g_iret C E rfl rfl (Nat.le_refl 0) (Nat.le_refl 0) (dk kX5_changeSetting 11 rfl)
theorem ct_X5_changeSetting {l : Launch} {Z : ZZ} {μ : Mm} {a0 : Nat} {a1 : Int32} {a2 : Int32} {r : Int32} {μ' : Mm} (k0 : (zk Z a0).1 = 4) (h : f_X5_changeSetting (zk Z) μ a0 a1 a2 = some (r, μ')) : CtM l Z false yX5_changeSetting cX5_changeSetting 4 (some .int) 0 0 0 [.ref (za Z a0), .int a1, .int a2] μ (some (.int r)) Z μ' := ct_of rfl rfl (Nat.le_of_ble_eq_true rfl) (fun X C E => t_X5_changeSetting μ a0 a1 a2 r μ' k0 h C E)

def qX5_renterOf : List (Nat × Instr × Nat) := [(0, .iconst 0, 1), (1, .istore_n 2, 1), (2, .iload_n 2, 1), (3, .aload_n 0, 1), (4, .getfield 62, 3), (7, .if_icmp .ge 25, 3), (10, .aload_n 0, 1), (11, .getfield 30, 3), (14, .iload_n 2, 1), (15, .aaload, 1), (16, .iload_n 1, 1), (17, .iload_n 1, 1), (18, .invokevirtual 209, 3), (21, .ifCond .eq 5, 3), (24, .iload_n 2, 1), (25, .ireturn, 1), (26, .iinc 2 1, 3), (29, .goto (-27), 3), (32, .iconst (-1), 1), (33, .ireturn, 1)]
theorem kX5_renterOf : ∀ q ∈ qX5_renterOf, decode cX5_renterOf q.1 = .ok q.2 := by decide +kernel
def f_X5_renterOf_l2 (K : Nat → Nat × Nat) (μ : Mm) (v0 : Nat) (v1 : Int32) : Nat → Int32 → Option ((Int32) ⊕ (Unit))
  | 0, _ => none
  | n + 1, v2 => if (μ.1 v0 6) ≤ v2 then (some (.inr ())) else (bd (rf K μ v0 5 9) fun b2 => gd (inb v2 (K b2).2) <| bd (rf K μ b2 (ix v2) 1) fun b4 => bd (f_X2_rentsOneOf K μ b4 v1 v1) fun x6 => if x6 = 0 then (lt1 (α := Int32) (v2 + 1) fun x8 => f_X5_renterOf_l2 K μ v0 v1 n x8) else (some (.inl v2)))
def f_X5_renterOf (K : Nat → Nat × Nat) (μ : Mm) (a0 : Nat) (a1 : Int32) : Option (Int32) :=
  bd (f_X5_renterOf_l2 K μ a0 a1 FU 0) fun q9 => (match q9 with | .inl r => some r | .inr q10 => some (-1))
set_option maxRecDepth 100000 in
set_option maxHeartbeats 4000000 in
theorem gl_X5_renterOf_2 {l : Launch} {Z : ZZ} {X : XX} (v0 : Nat) (v1 : Int32) (k0 : (zk Z v0).1 = 4) (μ : Mm) (C : Cx l Z false X cX5_renterOf RX5 3 (some .int)) (E : xR X = rmm 1 0 0) : ∀ (n : Nat) (v2 : Int32) (y : (Int32) ⊕ (Unit)), f_X5_renterOf_l2 (zk Z) μ v0 v1 n v2 = some y → (∀ r, y = .inl r → Ex Z X 1 0 0 (some (.int r)) Z μ) → (∀ y9, y = .inr y9 → G Z X 3 0 0 32 [] [] (μ)) → G Z X 3 0 0 2 [(0, .ref (za Z v0)), (1, .int v1), (2, .int v2)] [] μ := by
  intro n
  induction n with
  | zero => intro v2 y h hr he; unfold f_X5_renterOf_l2 at h; cases h
  | succ n ih =>
    intro v2 y h hr he
    unfold f_X5_renterOf_l2 at h
    refine g_iload_n C (i := 2) 2 rfl rfl (dk kX5_renterOf 2 rfl) ?_
    refine g_aload_n C (i := 0) 0 rfl rfl (dk kX5_renterOf 3 rfl) ?_
    refine gI_4_6 C k0 (C.w wd_1_180) (dk kX5_renterOf 4 rfl) ?_
    refine g_icmp_ge C (tgt := 32) (dk kX5_renterOf 5 rfl) (by decide) (fun c1 => ?_) (fun c1 => ?_)
    · replace h := ite_t h c1
      cases h
      exact g_sub [] rfl (he _ rfl)
    · replace h := ite_f h c1
      refine g_aload_n C (i := 0) 0 rfl rfl (dk kX5_renterOf 6 rfl) ?_
      obtain ⟨b2, eb2, h⟩ := bd_inv h
      obtain ⟨rb2, kb2⟩ := rf_inv eb2
      refine gR_4_5 C k0 (C.w wd_1_178) rb2 (dk kX5_renterOf 7 rfl) ?_
      refine g_iload_n C (i := 2) 2 rfl rfl (dk kX5_renterOf 8 rfl) ?_
      obtain ⟨c3, h⟩ := gd_inv h
      obtain ⟨b4, eb4, h⟩ := bd_inv h
      obtain ⟨rb4, kb4⟩ := rf_inv eb4
      refine gA_9 C kb2 c3 rb4 (dk kX5_renterOf 9 rfl) ?_
      refine g_iload_n C (i := 1) 1 rfl rfl (dk kX5_renterOf 10 rfl) ?_
      refine g_iload_n C (i := 1) 1 rfl rfl (dk kX5_renterOf 11 rfl) ?_
      obtain ⟨x6, eq5, h⟩ := bd_inv h
      refine g_callV C E (rest := []) 2 (ct_X2_rentsOneOf kb4 eq5) wd_2_159 mm_X2_rentsOneOf ⟨rfl, by decide, by decide, by decide⟩ rfl (by decide) kb4 (by decide) rfl rfl (Nat.le_of_ble_eq_true rfl) (by decide) (dk kX5_renterOf 12 rfl) ?_
      refine g_if_eq C (tgt := 26) (dk kX5_renterOf 13 rfl) (by decide) (fun c7 => ?_) (fun c7 => ?_)
      · replace h := ite_t h c7
        obtain ⟨x8, ex8, h⟩ := lt_inv h
        refine g_iinc C (i := 2) (v := x8) (lv' := [(2, .int x8), (0, .ref (za Z v0)), (1, .int v1)]) 2 (dk kX5_renterOf 16 rfl) rfl (by rw [ex8]; rfl) (by decide) rfl ?_
        refine g_goto C (tgt := 2) (dk kX5_renterOf 17 rfl) (by decide) ?_
        exact g_sub [1, 2, 0] rfl (ih x8 y h hr he)
      · replace h := ite_f h c7
        refine g_iload_n C (i := 2) 2 rfl rfl (dk kX5_renterOf 14 rfl) ?_
        cases h
        have E := hr _ rfl
        exact g_iret C E rfl rfl (Nat.le_refl 0) (Nat.le_refl 0) (dk kX5_renterOf 15 rfl)
set_option maxRecDepth 100000 in
set_option maxHeartbeats 4000000 in
theorem t_X5_renterOf {l : Launch} {Z : ZZ} {X : XX} (μ : Mm) (a0 : Nat) (a1 : Int32) (r : Int32) (k0 : (zk Z a0).1 = 4) (h : f_X5_renterOf (zk Z) μ a0 a1 = some r) (C : Cx l Z false X cX5_renterOf RX5 3 (some .int)) (E : Ex Z X 1 0 0 (some (.int r)) Z μ) : G Z X 3 0 0 0 [(0, .ref (za Z a0)), (1, .int a1)] [] μ := by
  unfold f_X5_renterOf at h
  refine g_iconst C (v := 0) (by decide) (dk kX5_renterOf 0 rfl) ?_
  refine g_istore_n C (i := 2) (lv' := [(2, .int 0), (0, .ref (za Z a0)), (1, .int a1)]) (dk kX5_renterOf 1 rfl) rfl (by decide) rfl ?_
  obtain ⟨q9, eq9, h⟩ := bd_inv h
  refine g_sub [1, 2, 0] (lv' := [(0, .ref (za Z a0)), (1, .int a1), (2, .int 0)]) rfl ?_
  cases q9 with
  | inl r =>
    cases h
    exact gl_X5_renterOf_2 a0 a1 k0 μ C E.2 FU 0 _ eq9 (fun r hr9 => by cases hr9; exact E) (fun y hy9 => by cases hy9)
  | inr q10 =>
    refine gl_X5_renterOf_2 a0 a1 k0 μ C E.2 FU 0 _ eq9 (fun r hr9 => by cases hr9) (fun y hy9 => ?_)
    cases hy9
    refine g_iconst C (v := (-1)) (by decide) (dk kX5_renterOf 18 rfl) ?_
    cases h
    exact g_iret C E rfl rfl (Nat.le_refl 0) (Nat.le_refl 0) (dk kX5_renterOf 19 rfl)
theorem ct_X5_renterOf {l : Launch} {Z : ZZ} {μ : Mm} {a0 : Nat} {a1 : Int32} {r : Int32} (k0 : (zk Z a0).1 = 4) (h : f_X5_renterOf (zk Z) μ a0 a1 = some r) : CtM l Z false yX5_renterOf cX5_renterOf 3 (some .int) 1 0 0 [.ref (za Z a0), .int a1] μ (some (.int r)) Z μ := ct_of rfl rfl (Nat.le_of_ble_eq_true rfl) (fun X C E => t_X5_renterOf μ a0 a1 r k0 h C E)

def qX5_dotValue : List (Nat × Instr × Nat) := [(0, .iload_n 2, 1), (1, .tableswitch 67 0 3 #[31, 41, 51, 57], 31), (32, .aload_n 0, 1), (33, .getfield 12, 3), (36, .getfield 180, 3), (39, .iload_n 1, 1), (40, .iaload, 1), (41, .ireturn, 1), (42, .aload_n 0, 1), (43, .getfield 12, 3), (46, .getfield 107, 3), (49, .iload_n 1, 1), (50, .iaload, 1), (51, .ireturn, 1), (52, .aload_n 0, 1), (53, .iload_n 1, 1), (54, .invokevirtual 183, 3), (57, .ireturn, 1), (58, .aload_n 0, 1), (59, .getfield 12, 3), (62, .getfield 187, 3), (65, .iload_n 1, 1), (66, .iaload, 1), (67, .ireturn, 1), (68, .aload_n 0, 1), (69, .getfield 12, 3), (72, .iload_n 1, 1), (73, .aload_n 0, 1), (74, .getfield 18, 3), (77, .invokevirtual 190, 3), (80, .ireturn, 1)]
theorem kX5_dotValue : ∀ q ∈ qX5_dotValue, decode cX5_dotValue q.1 = .ok q.2 := by decide +kernel
def f_X5_dotValue (K : Nat → Nat × Nat) (μ : Mm) (a0 : Nat) (a1 : Int32) (a2 : Int32) : Option (Int32) :=
  if a2 = 0 then (bd (rf K μ a0 0 2) fun b2 => bd (rf K μ b2 2 8) fun b3 => gd (inb a1 (K b3).2) <| some (μ.1 b3 (ix a1))) else (if a2 = 1 then (bd (rf K μ a0 0 2) fun b6 => bd (rf K μ b6 3 8) fun b7 => gd (inb a1 (K b7).2) <| some (μ.1 b7 (ix a1))) else (if a2 = 2 then (bd (f_X5_renterOf K μ a0 a1) fun x11 => some x11) else (if a2 = 3 then (bd (rf K μ a0 0 2) fun b13 => bd (rf K μ b13 4 8) fun b14 => gd (inb a1 (K b14).2) <| some (μ.1 b14 (ix a1))) else (bd (rf K μ a0 0 2) fun b16 => bd (rf K μ a0 2 8) fun b17 => bd (f_X3_fadeOf K μ b16 a1 b17) fun x19 => some x19))))
set_option maxRecDepth 100000 in
set_option maxHeartbeats 4000000 in
theorem t_X5_dotValue {l : Launch} {Z : ZZ} {X : XX} (μ : Mm) (a0 : Nat) (a1 : Int32) (a2 : Int32) (r : Int32) (k0 : (zk Z a0).1 = 4) (h : f_X5_dotValue (zk Z) μ a0 a1 a2 = some r) (C : Cx l Z false X cX5_dotValue RX5 3 (some .int)) (E : Ex Z X 2 0 0 (some (.int r)) Z μ) : G Z X 3 0 0 0 [(0, .ref (za Z a0)), (1, .int a1), (2, .int a2)] [] μ := by
  unfold f_X5_dotValue at h
  refine g_iload_n C (i := 2) 2 rfl rfl (dk kX5_dotValue 0 rfl) ?_
  by_cases c1 : a2 = 0
  · replace h := ite_t h c1
    refine g_tin C (tgt := 32) (dk kX5_dotValue 1 rfl) (by rw [c1]; decide) (by rw [c1]; decide) (by rw [c1]; rfl) (by decide) ?_
    refine g_aload_n C (i := 0) 0 rfl rfl (dk kX5_dotValue 2 rfl) ?_
    obtain ⟨b2, eb2, h⟩ := bd_inv h
    obtain ⟨rb2, kb2⟩ := rf_inv eb2
    refine gR_4_0 C k0 (C.w wd_1_170) rb2 (dk kX5_dotValue 3 rfl) ?_
    obtain ⟨b3, eb3, h⟩ := bd_inv h
    obtain ⟨rb3, kb3⟩ := rf_inv eb3
    refine gRN_2_2 C kb2 (nf_6 C) rb3 (dk kX5_dotValue 4 rfl) ?_
    refine g_iload_n C (i := 1) 1 rfl rfl (dk kX5_dotValue 5 rfl) ?_
    obtain ⟨c4, h⟩ := gd_inv h
    refine g_iald C kb3 c4 (dk kX5_dotValue 6 rfl) ?_
    cases h
    exact g_iret C E rfl rfl (Nat.le_refl 0) (Nat.le_refl 0) (dk kX5_dotValue 7 rfl)
  · replace h := ite_f h c1
    by_cases c5 : a2 = 1
    · replace h := ite_t h c5
      refine g_tin C (tgt := 42) (dk kX5_dotValue 1 rfl) (by rw [c5]; decide) (by rw [c5]; decide) (by rw [c5]; rfl) (by decide) ?_
      refine g_aload_n C (i := 0) 0 rfl rfl (dk kX5_dotValue 8 rfl) ?_
      obtain ⟨b6, eb6, h⟩ := bd_inv h
      obtain ⟨rb6, kb6⟩ := rf_inv eb6
      refine gR_4_0 C k0 (C.w wd_1_170) rb6 (dk kX5_dotValue 9 rfl) ?_
      obtain ⟨b7, eb7, h⟩ := bd_inv h
      obtain ⟨rb7, kb7⟩ := rf_inv eb7
      refine gRN_2_3 C kb6 (nf_7 C) rb7 (dk kX5_dotValue 10 rfl) ?_
      refine g_iload_n C (i := 1) 1 rfl rfl (dk kX5_dotValue 11 rfl) ?_
      obtain ⟨c8, h⟩ := gd_inv h
      refine g_iald C kb7 c8 (dk kX5_dotValue 12 rfl) ?_
      cases h
      exact g_iret C E rfl rfl (Nat.le_refl 0) (Nat.le_refl 0) (dk kX5_dotValue 13 rfl)
    · replace h := ite_f h c5
      by_cases c9 : a2 = 2
      · replace h := ite_t h c9
        refine g_tin C (tgt := 52) (dk kX5_dotValue 1 rfl) (by rw [c9]; decide) (by rw [c9]; decide) (by rw [c9]; rfl) (by decide) ?_
        refine g_aload_n C (i := 0) 0 rfl rfl (dk kX5_dotValue 14 rfl) ?_
        refine g_iload_n C (i := 1) 1 rfl rfl (dk kX5_dotValue 15 rfl) ?_
        obtain ⟨x11, eq10, h⟩ := bd_inv h
        refine g_callV C E.2 (rest := []) 1 (ct_X5_renterOf k0 eq10) wd_3_230 mm_X5_renterOf ⟨rfl, by decide, by decide, by decide⟩ rfl (by decide) k0 (by decide) rfl rfl (Nat.le_of_ble_eq_true rfl) (by decide) (dk kX5_dotValue 16 rfl) ?_
        cases h
        exact g_iret C E rfl rfl (Nat.le_refl 0) (Nat.le_refl 0) (dk kX5_dotValue 17 rfl)
      · replace h := ite_f h c9
        by_cases c12 : a2 = 3
        · replace h := ite_t h c12
          refine g_tin C (tgt := 58) (dk kX5_dotValue 1 rfl) (by rw [c12]; decide) (by rw [c12]; decide) (by rw [c12]; rfl) (by decide) ?_
          refine g_aload_n C (i := 0) 0 rfl rfl (dk kX5_dotValue 18 rfl) ?_
          obtain ⟨b13, eb13, h⟩ := bd_inv h
          obtain ⟨rb13, kb13⟩ := rf_inv eb13
          refine gR_4_0 C k0 (C.w wd_1_170) rb13 (dk kX5_dotValue 19 rfl) ?_
          obtain ⟨b14, eb14, h⟩ := bd_inv h
          obtain ⟨rb14, kb14⟩ := rf_inv eb14
          refine gRN_2_4 C kb13 (nf_8 C) rb14 (dk kX5_dotValue 20 rfl) ?_
          refine g_iload_n C (i := 1) 1 rfl rfl (dk kX5_dotValue 21 rfl) ?_
          obtain ⟨c15, h⟩ := gd_inv h
          refine g_iald C kb14 c15 (dk kX5_dotValue 22 rfl) ?_
          cases h
          exact g_iret C E rfl rfl (Nat.le_refl 0) (Nat.le_refl 0) (dk kX5_dotValue 23 rfl)
        · replace h := ite_f h c12
          refine g_tout C (tgt := 68) (dk kX5_dotValue 1 rfl) (by have q0 := lv_neT c1 (a := 0) (by decide); have q1 := lv_neT c5 (a := 1) (by decide); have q2 := lv_neT c9 (a := 2) (by decide); have q3 := lv_neT c12 (a := 3) (by decide); omega) (by decide) ?_
          refine g_aload_n C (i := 0) 0 rfl rfl (dk kX5_dotValue 24 rfl) ?_
          obtain ⟨b16, eb16, h⟩ := bd_inv h
          obtain ⟨rb16, kb16⟩ := rf_inv eb16
          refine gR_4_0 C k0 (C.w wd_1_170) rb16 (dk kX5_dotValue 25 rfl) ?_
          refine g_iload_n C (i := 1) 1 rfl rfl (dk kX5_dotValue 26 rfl) ?_
          refine g_aload_n C (i := 0) 0 rfl rfl (dk kX5_dotValue 27 rfl) ?_
          obtain ⟨b17, eb17, h⟩ := bd_inv h
          obtain ⟨rb17, kb17⟩ := rf_inv eb17
          refine gR_4_2 C k0 (C.w wd_1_173) rb17 (dk kX5_dotValue 28 rfl) ?_
          obtain ⟨x19, eq18, h⟩ := bd_inv h
          refine g_callV C E.2 (rest := []) 2 (ct_X3_fadeOf kb16 kb17 eq18) wd_3_234 mm_X3_fadeOf ⟨rfl, by decide, by decide, by decide⟩ rfl (by decide) kb16 (by decide) rfl rfl (Nat.le_of_ble_eq_true rfl) (by decide) (dk kX5_dotValue 29 rfl) ?_
          cases h
          exact g_iret C E rfl rfl (Nat.le_refl 0) (Nat.le_refl 0) (dk kX5_dotValue 30 rfl)
theorem ct_X5_dotValue {l : Launch} {Z : ZZ} {μ : Mm} {a0 : Nat} {a1 : Int32} {a2 : Int32} {r : Int32} (k0 : (zk Z a0).1 = 4) (h : f_X5_dotValue (zk Z) μ a0 a1 a2 = some r) : CtM l Z false yX5_dotValue cX5_dotValue 3 (some .int) 2 0 0 [.ref (za Z a0), .int a1, .int a2] μ (some (.int r)) Z μ := ct_of rfl rfl (Nat.le_of_ble_eq_true rfl) (fun X C E => t_X5_dotValue μ a0 a1 a2 r k0 h C E)

def qX5_endLet : List (Nat × Instr × Nat) := [(0, .aload_n 0, 1), (1, .getfield 30, 3), (4, .iload_n 1, 1), (5, .aaload, 1), (6, .invokevirtual 135, 3), (9, .istore_n 2, 1), (10, .aload_n 0, 1), (11, .getfield 30, 3), (14, .iload_n 1, 1), (15, .aaload, 1), (16, .invokevirtual 79, 3), (19, .iload_n 2, 1), (20, .ireturn, 1)]
theorem kX5_endLet : ∀ q ∈ qX5_endLet, decode cX5_endLet q.1 = .ok q.2 := by decide +kernel
def f_X5_endLet (K : Nat → Nat × Nat) (μ : Mm) (a0 : Nat) (a1 : Int32) : Option (Int32 × Mm) :=
  bd (rf K μ a0 5 9) fun b1 => gd (inb a1 (K b1).2) <| bd (rf K μ b1 (ix a1) 1) fun b3 => bd (f_X2_rented K μ b3) fun x5 => bd (rf K μ a0 5 9) fun b6 => gd (inb a1 (K b6).2) <| bd (rf K μ b6 (ix a1) 1) fun b8 => bd (f_X2_rentNothing K μ b8) fun μ10 => some (x5, μ10)
set_option maxRecDepth 100000 in
set_option maxHeartbeats 4000000 in
theorem t_X5_endLet {l : Launch} {Z : ZZ} {X : XX} (μ : Mm) (a0 : Nat) (a1 : Int32) (r : Int32) (μ' : Mm) (k0 : (zk Z a0).1 = 4) (h : f_X5_endLet (zk Z) μ a0 a1 = some (r, μ')) (C : Cx l Z false X cX5_endLet RX5 3 (some .int)) (E : Ex Z X 1 0 0 (some (.int r)) Z μ') : G Z X 3 0 0 0 [(0, .ref (za Z a0)), (1, .int a1)] [] μ := by
  unfold f_X5_endLet at h
  refine g_aload_n C (i := 0) 0 rfl rfl (dk kX5_endLet 0 rfl) ?_
  obtain ⟨b1, eb1, h⟩ := bd_inv h
  obtain ⟨rb1, kb1⟩ := rf_inv eb1
  refine gR_4_5 C k0 (C.w wd_1_178) rb1 (dk kX5_endLet 1 rfl) ?_
  refine g_iload_n C (i := 1) 1 rfl rfl (dk kX5_endLet 2 rfl) ?_
  obtain ⟨c2, h⟩ := gd_inv h
  obtain ⟨b3, eb3, h⟩ := bd_inv h
  obtain ⟨rb3, kb3⟩ := rf_inv eb3
  refine gA_9 C kb1 c2 rb3 (dk kX5_endLet 3 rfl) ?_
  obtain ⟨x5, eq4, h⟩ := bd_inv h
  refine g_callV C E.2 (rest := []) 0 (ct_X2_rented kb3 eq4) wd_3_56 mm_X2_rented ⟨rfl, by decide, by decide, by decide⟩ rfl (by decide) kb3 (by decide) rfl rfl (Nat.le_of_ble_eq_true rfl) (by decide) (dk kX5_endLet 4 rfl) ?_
  refine g_istore_n C (i := 2) (lv' := [(2, .int x5), (0, .ref (za Z a0)), (1, .int a1)]) (dk kX5_endLet 5 rfl) rfl (by decide) rfl ?_
  refine g_aload_n C (i := 0) 1 rfl rfl (dk kX5_endLet 6 rfl) ?_
  obtain ⟨b6, eb6, h⟩ := bd_inv h
  obtain ⟨rb6, kb6⟩ := rf_inv eb6
  refine gR_4_5 C k0 (C.w wd_1_178) rb6 (dk kX5_endLet 7 rfl) ?_
  refine g_iload_n C (i := 1) 2 rfl rfl (dk kX5_endLet 8 rfl) ?_
  obtain ⟨c7, h⟩ := gd_inv h
  obtain ⟨b8, eb8, h⟩ := bd_inv h
  obtain ⟨rb8, kb8⟩ := rf_inv eb8
  refine gA_9 C kb6 c7 rb8 (dk kX5_endLet 9 rfl) ?_
  obtain ⟨μ10, eq9, h⟩ := bd_inv h
  refine g_callV C E.2 (rest := []) 0 (ct_X2_rentNothing kb8 eq9) wd_3_32 mm_X2_rentNothing ⟨rfl, by decide, by decide, by decide⟩ rfl (by decide) kb8 (by decide) rfl rfl (Nat.le_of_ble_eq_true rfl) (by decide) (dk kX5_endLet 10 rfl) ?_
  refine g_iload_n C (i := 2) 0 rfl rfl (dk kX5_endLet 11 rfl) ?_
  cases h
  exact g_iret C E rfl rfl (Nat.le_refl 0) (Nat.le_refl 0) (dk kX5_endLet 12 rfl)
theorem ct_X5_endLet {l : Launch} {Z : ZZ} {μ : Mm} {a0 : Nat} {a1 : Int32} {r : Int32} {μ' : Mm} (k0 : (zk Z a0).1 = 4) (h : f_X5_endLet (zk Z) μ a0 a1 = some (r, μ')) : CtM l Z false yX5_endLet cX5_endLet 3 (some .int) 1 0 0 [.ref (za Z a0), .int a1] μ (some (.int r)) Z μ' := ct_of rfl rfl (Nat.le_of_ble_eq_true rfl) (fun X C E => t_X5_endLet μ a0 a1 r μ' k0 h C E)

def qX5_hasCustomer : List (Nat × Instr × Nat) := [(0, .iload_n 1, 1), (1, .ifCond .lt 15, 3), (4, .iload_n 1, 1), (5, .aload_n 0, 1), (6, .getfield 62, 3), (9, .if_icmp .ge 7, 3), (12, .iconst 1, 1), (13, .goto 4, 3), (16, .iconst 0, 1), (17, .ireturn, 1)]
theorem kX5_hasCustomer : ∀ q ∈ qX5_hasCustomer, decode cX5_hasCustomer q.1 = .ok q.2 := by decide +kernel
def f_X5_hasCustomer (K : Nat → Nat × Nat) (μ : Mm) (a0 : Nat) (a1 : Int32) : Option (Int32) :=
  if a1 < 0 then (some 0) else (lt1 (α := Int32) (if (μ.1 a0 6) ≤ a1 then 0 else 1) fun x2 => gd (x2 = 0 ∨ x2 = 1) <| some x2)
set_option maxRecDepth 100000 in
set_option maxHeartbeats 4000000 in
theorem t_X5_hasCustomer {l : Launch} {Z : ZZ} {X : XX} (μ : Mm) (a0 : Nat) (a1 : Int32) (r : Int32) (k0 : (zk Z a0).1 = 4) (h : f_X5_hasCustomer (zk Z) μ a0 a1 = some r) (C : Cx l Z false X cX5_hasCustomer RX5 2 (some .boolean)) (E : Ex Z X 0 0 0 (some (.int r)) Z μ) : G Z X 2 0 0 0 [(0, .ref (za Z a0)), (1, .int a1)] [] μ := by
  unfold f_X5_hasCustomer at h
  refine g_iload_n C (i := 1) 1 rfl rfl (dk kX5_hasCustomer 0 rfl) ?_
  refine g_if_lt C (tgt := 16) (dk kX5_hasCustomer 1 rfl) (by decide) (fun c1 => ?_) (fun c1 => ?_)
  · replace h := ite_t h c1
    refine g_iconst C (v := 0) (by decide) (dk kX5_hasCustomer 8 rfl) ?_
    cases h
    exact g_iret C E rfl rfl (Nat.le_refl 0) (Nat.le_refl 0) (dk kX5_hasCustomer 9 rfl)
  · replace h := ite_f h c1
    refine g_iload_n C (i := 1) 1 rfl rfl (dk kX5_hasCustomer 2 rfl) ?_
    refine g_aload_n C (i := 0) 0 rfl rfl (dk kX5_hasCustomer 3 rfl) ?_
    refine gI_4_6 C k0 (C.w wd_1_180) (dk kX5_hasCustomer 4 rfl) ?_
    obtain ⟨x2, ex2, h⟩ := lt_inv h
    have kj3 : G Z X 2 0 0 17 [(0, .ref (za Z a0)), (1, .int a1)] [.int x2] μ := by
      obtain ⟨c4, h⟩ := gd_inv h
      cases h
      exact g_iret C E rfl (br0 _ c4) (Nat.le_refl 0) (Nat.le_refl 0) (dk kX5_hasCustomer 9 rfl)
    clear h
    refine g_icmp_ge C (tgt := 16) (dk kX5_hasCustomer 5 rfl) (by decide) (fun c5 => ?_) (fun c5 => ?_)
    · refine g_iconst C (v := 0) (by decide) (dk kX5_hasCustomer 8 rfl) ?_
      exact g_nmi (by rw [ex2, if_pos c5]) kj3
    · refine g_iconst C (v := 1) (by decide) (dk kX5_hasCustomer 6 rfl) ?_
      refine g_goto C (tgt := 17) (dk kX5_hasCustomer 7 rfl) (by decide) ?_
      exact g_nmi (by rw [ex2, if_neg c5]) kj3
theorem ct_X5_hasCustomer {l : Launch} {Z : ZZ} {μ : Mm} {a0 : Nat} {a1 : Int32} {r : Int32} (k0 : (zk Z a0).1 = 4) (h : f_X5_hasCustomer (zk Z) μ a0 a1 = some r) : CtM l Z false yX5_hasCustomer cX5_hasCustomer 2 (some .boolean) 0 0 0 [.ref (za Z a0), .int a1] μ (some (.int r)) Z μ := ct_of rfl rfl (Nat.le_of_ble_eq_true rfl) (fun X C E => t_X5_hasCustomer μ a0 a1 r k0 h C E)

def qX5_hasDot : List (Nat × Instr × Nat) := [(0, .iload_n 1, 1), (1, .ifCond .lt 18, 3), (4, .iload_n 1, 1), (5, .aload_n 0, 1), (6, .getfield 12, 3), (9, .getfield 68, 3), (12, .if_icmp .ge 7, 3), (15, .iconst 1, 1), (16, .goto 4, 3), (19, .iconst 0, 1), (20, .ireturn, 1)]
theorem kX5_hasDot : ∀ q ∈ qX5_hasDot, decode cX5_hasDot q.1 = .ok q.2 := by decide +kernel
def f_X5_hasDot (K : Nat → Nat × Nat) (μ : Mm) (a0 : Nat) (a1 : Int32) : Option (Int32) :=
  if a1 < 0 then (some 0) else (bd (rf K μ a0 0 2) fun b2 => lt1 (α := Int32) (if (μ.1 b2 0) ≤ a1 then 0 else 1) fun x3 => gd (x3 = 0 ∨ x3 = 1) <| some x3)
set_option maxRecDepth 100000 in
set_option maxHeartbeats 4000000 in
theorem t_X5_hasDot {l : Launch} {Z : ZZ} {X : XX} (μ : Mm) (a0 : Nat) (a1 : Int32) (r : Int32) (k0 : (zk Z a0).1 = 4) (h : f_X5_hasDot (zk Z) μ a0 a1 = some r) (C : Cx l Z false X cX5_hasDot RX5 2 (some .boolean)) (E : Ex Z X 0 0 0 (some (.int r)) Z μ) : G Z X 2 0 0 0 [(0, .ref (za Z a0)), (1, .int a1)] [] μ := by
  unfold f_X5_hasDot at h
  refine g_iload_n C (i := 1) 1 rfl rfl (dk kX5_hasDot 0 rfl) ?_
  refine g_if_lt C (tgt := 19) (dk kX5_hasDot 1 rfl) (by decide) (fun c1 => ?_) (fun c1 => ?_)
  · replace h := ite_t h c1
    refine g_iconst C (v := 0) (by decide) (dk kX5_hasDot 9 rfl) ?_
    cases h
    exact g_iret C E rfl rfl (Nat.le_refl 0) (Nat.le_refl 0) (dk kX5_hasDot 10 rfl)
  · replace h := ite_f h c1
    refine g_iload_n C (i := 1) 1 rfl rfl (dk kX5_hasDot 2 rfl) ?_
    refine g_aload_n C (i := 0) 0 rfl rfl (dk kX5_hasDot 3 rfl) ?_
    obtain ⟨b2, eb2, h⟩ := bd_inv h
    obtain ⟨rb2, kb2⟩ := rf_inv eb2
    refine gR_4_0 C k0 (C.w wd_1_170) rb2 (dk kX5_hasDot 4 rfl) ?_
    refine gIN_2_0 C kb2 (nf_3 C) (dk kX5_hasDot 5 rfl) ?_
    obtain ⟨x3, ex3, h⟩ := lt_inv h
    have kj4 : G Z X 2 0 0 20 [(0, .ref (za Z a0)), (1, .int a1)] [.int x3] μ := by
      obtain ⟨c5, h⟩ := gd_inv h
      cases h
      exact g_iret C E rfl (br0 _ c5) (Nat.le_refl 0) (Nat.le_refl 0) (dk kX5_hasDot 10 rfl)
    clear h
    refine g_icmp_ge C (tgt := 19) (dk kX5_hasDot 6 rfl) (by decide) (fun c6 => ?_) (fun c6 => ?_)
    · refine g_iconst C (v := 0) (by decide) (dk kX5_hasDot 9 rfl) ?_
      exact g_nmi (by rw [ex3, if_pos c6]) kj4
    · refine g_iconst C (v := 1) (by decide) (dk kX5_hasDot 7 rfl) ?_
      refine g_goto C (tgt := 20) (dk kX5_hasDot 8 rfl) (by decide) ?_
      exact g_nmi (by rw [ex3, if_neg c6]) kj4
theorem ct_X5_hasDot {l : Launch} {Z : ZZ} {μ : Mm} {a0 : Nat} {a1 : Int32} {r : Int32} (k0 : (zk Z a0).1 = 4) (h : f_X5_hasDot (zk Z) μ a0 a1 = some r) : CtM l Z false yX5_hasDot cX5_hasDot 2 (some .boolean) 0 0 0 [.ref (za Z a0), .int a1] μ (some (.int r)) Z μ := ct_of rfl rfl (Nat.le_of_ble_eq_true rfl) (fun X C E => t_X5_hasDot μ a0 a1 r k0 h C E)

def qX5_hasLabel : List (Nat × Instr × Nat) := [(0, .iload_n 1, 1), (1, .ifCond .lt 15, 3), (4, .iload_n 1, 1), (5, .aload_n 0, 1), (6, .getfield 55, 3), (9, .if_icmp .ge 7, 3), (12, .iconst 1, 1), (13, .goto 4, 3), (16, .iconst 0, 1), (17, .ireturn, 1)]
theorem kX5_hasLabel : ∀ q ∈ qX5_hasLabel, decode cX5_hasLabel q.1 = .ok q.2 := by decide +kernel
def f_X5_hasLabel (K : Nat → Nat × Nat) (μ : Mm) (a0 : Nat) (a1 : Int32) : Option (Int32) :=
  if a1 < 0 then (some 0) else (lt1 (α := Int32) (if (μ.1 a0 4) ≤ a1 then 0 else 1) fun x2 => gd (x2 = 0 ∨ x2 = 1) <| some x2)
set_option maxRecDepth 100000 in
set_option maxHeartbeats 4000000 in
theorem t_X5_hasLabel {l : Launch} {Z : ZZ} {X : XX} (μ : Mm) (a0 : Nat) (a1 : Int32) (r : Int32) (k0 : (zk Z a0).1 = 4) (h : f_X5_hasLabel (zk Z) μ a0 a1 = some r) (C : Cx l Z false X cX5_hasLabel RX5 2 (some .boolean)) (E : Ex Z X 0 0 0 (some (.int r)) Z μ) : G Z X 2 0 0 0 [(0, .ref (za Z a0)), (1, .int a1)] [] μ := by
  unfold f_X5_hasLabel at h
  refine g_iload_n C (i := 1) 1 rfl rfl (dk kX5_hasLabel 0 rfl) ?_
  refine g_if_lt C (tgt := 16) (dk kX5_hasLabel 1 rfl) (by decide) (fun c1 => ?_) (fun c1 => ?_)
  · replace h := ite_t h c1
    refine g_iconst C (v := 0) (by decide) (dk kX5_hasLabel 8 rfl) ?_
    cases h
    exact g_iret C E rfl rfl (Nat.le_refl 0) (Nat.le_refl 0) (dk kX5_hasLabel 9 rfl)
  · replace h := ite_f h c1
    refine g_iload_n C (i := 1) 1 rfl rfl (dk kX5_hasLabel 2 rfl) ?_
    refine g_aload_n C (i := 0) 0 rfl rfl (dk kX5_hasLabel 3 rfl) ?_
    refine gI_4_4 C k0 (C.w wd_1_176) (dk kX5_hasLabel 4 rfl) ?_
    obtain ⟨x2, ex2, h⟩ := lt_inv h
    have kj3 : G Z X 2 0 0 17 [(0, .ref (za Z a0)), (1, .int a1)] [.int x2] μ := by
      obtain ⟨c4, h⟩ := gd_inv h
      cases h
      exact g_iret C E rfl (br0 _ c4) (Nat.le_refl 0) (Nat.le_refl 0) (dk kX5_hasLabel 9 rfl)
    clear h
    refine g_icmp_ge C (tgt := 16) (dk kX5_hasLabel 5 rfl) (by decide) (fun c5 => ?_) (fun c5 => ?_)
    · refine g_iconst C (v := 0) (by decide) (dk kX5_hasLabel 8 rfl) ?_
      exact g_nmi (by rw [ex2, if_pos c5]) kj3
    · refine g_iconst C (v := 1) (by decide) (dk kX5_hasLabel 6 rfl) ?_
      refine g_goto C (tgt := 17) (dk kX5_hasLabel 7 rfl) (by decide) ?_
      exact g_nmi (by rw [ex2, if_neg c5]) kj3
theorem ct_X5_hasLabel {l : Launch} {Z : ZZ} {μ : Mm} {a0 : Nat} {a1 : Int32} {r : Int32} (k0 : (zk Z a0).1 = 4) (h : f_X5_hasLabel (zk Z) μ a0 a1 = some r) : CtM l Z false yX5_hasLabel cX5_hasLabel 2 (some .boolean) 0 0 0 [.ref (za Z a0), .int a1] μ (some (.int r)) Z μ := ct_of rfl rfl (Nat.le_of_ble_eq_true rfl) (fun X C E => t_X5_hasLabel μ a0 a1 r k0 h C E)

def qX5_readableAt : List (Nat × Instr × Nat) := [(0, .aload_n 0, 1), (1, .getfield 34, 3), (4, .aload_n 0, 1), (5, .getfield 12, 3), (8, .iload_n 2, 1), (9, .aload_n 0, 1), (10, .getfield 24, 3), (13, .iload_n 1, 1), (14, .aaload, 1), (15, .getfield 88, 3), (18, .invokevirtual 224, 3), (21, .iconst 0, 1), (22, .istore_n 3, 1), (23, .iload_n 3, 1), (24, .bipush 100, 2), (26, .if_icmp .ge 36, 3), (29, .aload_n 0, 1), (30, .getfield 34, 3), (33, .aload_n 0, 1), (34, .getfield 24, 3), (37, .iload_n 1, 1), (38, .aaload, 1), (39, .iconst 0, 1), (40, .aload_n 0, 1), (41, .getfield 18, 3), (44, .invokevirtual 148, 3), (47, .aload_n 0, 1), (48, .getfield 18, 3), (51, .iconst 5, 1), (52, .iaload, 1), (53, .if_icmp .gt 9, 3), (56, .iinc 3 1, 3), (59, .goto (-36), 3), (62, .iload_n 3, 1), (63, .ireturn, 1)]
theorem kX5_readableAt : ∀ q ∈ qX5_readableAt, decode cX5_readableAt q.1 = .ok q.2 := by decide +kernel
def f_X5_readableAt_l23 (K : Nat → Nat × Nat) (v0 : Nat) (v1 : Int32) : Nat → Mm → Int32 → Option (Int32 × Mm)
  | 0, _, _ => none
  | n + 1, μ, v3 => if 100 ≤ v3 then (some (v3, μ)) else (bd (rf K μ v0 1 2) fun b9 => bd (rf K μ v0 3 10) fun b10 => gd (inb v1 (K b10).2) <| bd (rf K μ b10 (ix v1) 3) fun b12 => bd (rf K μ v0 2 8) fun b13 => bd (f_X3_printRows K μ b9 b12 0 b13) fun q14 => lt1 q14.1 fun x16 => lt1 q14.2 fun μ15 => bd (rf K μ15 v0 2 8) fun b17 => gd (inb 5 (K b17).2) <| if (μ15.1 b17 (ix 5)) < x16 then (some (v3, μ15)) else (lt1 (α := Int32) (v3 + 1) fun x20 => f_X5_readableAt_l23 K v0 v1 n μ15 x20))
def f_X5_readableAt (K : Nat → Nat × Nat) (μ : Mm) (a0 : Nat) (a1 : Int32) (a2 : Int32) : Option (Int32 × Mm) :=
  bd (rf K μ a0 1 2) fun b1 => bd (rf K μ a0 0 2) fun b2 => bd (rf K μ a0 3 10) fun b3 => gd (inb a1 (K b3).2) <| bd (rf K μ b3 (ix a1) 3) fun b5 => bd (f_X3_takePart K μ b1 b2 a2 (μ.1 b5 0)) fun μ7 => bd (f_X5_readableAt_l23 K a0 a1 FU μ7 0) fun q21 => lt1 q21.1 fun x22 => lt1 q21.2 fun μ23 => some (x22, μ23)
set_option maxRecDepth 100000 in
set_option maxHeartbeats 4000000 in
theorem gl_X5_readableAt_23 {l : Launch} {Z : ZZ} {X : XX} (v0 : Nat) (v1 : Int32) (k0 : (zk Z v0).1 = 4) (C : Cx l Z false X cX5_readableAt RX5 4 (some .int)) (E : xR X = rmm 2 0 0) : ∀ (n : Nat) (μ : Mm) (v3 : Int32) (y : Int32 × Mm), f_X5_readableAt_l23 (zk Z) v0 v1 n μ v3 = some y → G Z X 4 0 0 62 [(3, .int y.1)] [] y.2 → G Z X 4 0 0 23 [(0, .ref (za Z v0)), (1, .int v1), (3, .int v3)] [] μ := by
  intro n
  induction n with
  | zero => intro μ v3 y h he; unfold f_X5_readableAt_l23 at h; cases h
  | succ n ih =>
    intro μ v3 y h he
    unfold f_X5_readableAt_l23 at h
    refine g_iload_n C (i := 3) 2 rfl rfl (dk kX5_readableAt 13 rfl) ?_
    refine g_bipush C (v := 100) (by decide) (dk kX5_readableAt 14 rfl) ?_
    refine g_icmp_ge C (tgt := 62) (dk kX5_readableAt 15 rfl) (by decide) (fun c8 => ?_) (fun c8 => ?_)
    · replace h := ite_t h c8
      cases h
      exact g_sub [2] rfl he
    · replace h := ite_f h c8
      refine g_aload_n C (i := 0) 0 rfl rfl (dk kX5_readableAt 16 rfl) ?_
      obtain ⟨b9, eb9, h⟩ := bd_inv h
      obtain ⟨rb9, kb9⟩ := rf_inv eb9
      refine gR_4_1 C k0 (C.w wd_1_172) rb9 (dk kX5_readableAt 17 rfl) ?_
      refine g_aload_n C (i := 0) 0 rfl rfl (dk kX5_readableAt 18 rfl) ?_
      obtain ⟨b10, eb10, h⟩ := bd_inv h
      obtain ⟨rb10, kb10⟩ := rf_inv eb10
      refine gR_4_3 C k0 (C.w wd_1_174) rb10 (dk kX5_readableAt 19 rfl) ?_
      refine g_iload_n C (i := 1) 1 rfl rfl (dk kX5_readableAt 20 rfl) ?_
      obtain ⟨c11, h⟩ := gd_inv h
      obtain ⟨b12, eb12, h⟩ := bd_inv h
      obtain ⟨rb12, kb12⟩ := rf_inv eb12
      refine gA_10 C kb10 c11 rb12 (dk kX5_readableAt 21 rfl) ?_
      refine g_iconst C (v := 0) (by decide) (dk kX5_readableAt 22 rfl) ?_
      refine g_aload_n C (i := 0) 0 rfl rfl (dk kX5_readableAt 23 rfl) ?_
      obtain ⟨b13, eb13, h⟩ := bd_inv h
      obtain ⟨rb13, kb13⟩ := rf_inv eb13
      refine gR_4_2 C k0 (C.w wd_1_173) rb13 (dk kX5_readableAt 24 rfl) ?_
      obtain ⟨q14, eq14, h⟩ := bd_inv h
      obtain ⟨x16, ex16, h⟩ := lt_inv h
      obtain ⟨μ15, eμ15, h⟩ := lt_inv h
      rw [show q14 = (x16, μ15) from by rw [ex16, eμ15]] at eq14
      refine g_callV C E (rest := []) 3 (ct_X3_printRows kb9 kb12 kb13 eq14) wd_2_205 mm_X3_printRows ⟨rfl, by decide, by decide, by decide⟩ rfl (by decide) kb9 (by decide) rfl rfl (Nat.le_of_ble_eq_true rfl) (by decide) (dk kX5_readableAt 25 rfl) ?_
      refine g_aload_n C (i := 0) 0 rfl rfl (dk kX5_readableAt 26 rfl) ?_
      obtain ⟨b17, eb17, h⟩ := bd_inv h
      obtain ⟨rb17, kb17⟩ := rf_inv eb17
      refine gR_4_2 C k0 (C.w wd_1_173) rb17 (dk kX5_readableAt 27 rfl) ?_
      refine g_iconst C (v := 5) (by decide) (dk kX5_readableAt 28 rfl) ?_
      obtain ⟨c18, h⟩ := gd_inv h
      refine g_iald C kb17 c18 (dk kX5_readableAt 29 rfl) ?_
      refine g_icmp_gt C (tgt := 62) (dk kX5_readableAt 30 rfl) (by decide) (fun c19 => ?_) (fun c19 => ?_)
      · replace h := ite_t h c19
        cases h
        exact g_sub [2] rfl he
      · replace h := ite_f h c19
        obtain ⟨x20, ex20, h⟩ := lt_inv h
        refine g_iinc C (i := 3) (v := x20) (lv' := [(3, .int x20), (0, .ref (za Z v0)), (1, .int v1)]) 2 (dk kX5_readableAt 31 rfl) rfl (by rw [ex20]; rfl) (by decide) rfl ?_
        refine g_goto C (tgt := 23) (dk kX5_readableAt 32 rfl) (by decide) ?_
        exact g_sub [1, 2, 0] rfl (ih μ15 x20 y h he)
set_option maxRecDepth 100000 in
set_option maxHeartbeats 4000000 in
theorem t_X5_readableAt {l : Launch} {Z : ZZ} {X : XX} (μ : Mm) (a0 : Nat) (a1 : Int32) (a2 : Int32) (r : Int32) (μ' : Mm) (k0 : (zk Z a0).1 = 4) (h : f_X5_readableAt (zk Z) μ a0 a1 a2 = some (r, μ')) (C : Cx l Z false X cX5_readableAt RX5 4 (some .int)) (E : Ex Z X 2 0 0 (some (.int r)) Z μ') : G Z X 4 0 0 0 [(0, .ref (za Z a0)), (1, .int a1), (2, .int a2)] [] μ := by
  unfold f_X5_readableAt at h
  refine g_aload_n C (i := 0) 0 rfl rfl (dk kX5_readableAt 0 rfl) ?_
  obtain ⟨b1, eb1, h⟩ := bd_inv h
  obtain ⟨rb1, kb1⟩ := rf_inv eb1
  refine gR_4_1 C k0 (C.w wd_1_172) rb1 (dk kX5_readableAt 1 rfl) ?_
  refine g_aload_n C (i := 0) 0 rfl rfl (dk kX5_readableAt 2 rfl) ?_
  obtain ⟨b2, eb2, h⟩ := bd_inv h
  obtain ⟨rb2, kb2⟩ := rf_inv eb2
  refine gR_4_0 C k0 (C.w wd_1_170) rb2 (dk kX5_readableAt 3 rfl) ?_
  refine g_iload_n C (i := 2) 2 rfl rfl (dk kX5_readableAt 4 rfl) ?_
  refine g_aload_n C (i := 0) 0 rfl rfl (dk kX5_readableAt 5 rfl) ?_
  obtain ⟨b3, eb3, h⟩ := bd_inv h
  obtain ⟨rb3, kb3⟩ := rf_inv eb3
  refine gR_4_3 C k0 (C.w wd_1_174) rb3 (dk kX5_readableAt 6 rfl) ?_
  refine g_iload_n C (i := 1) 1 rfl rfl (dk kX5_readableAt 7 rfl) ?_
  obtain ⟨c4, h⟩ := gd_inv h
  obtain ⟨b5, eb5, h⟩ := bd_inv h
  obtain ⟨rb5, kb5⟩ := rf_inv eb5
  refine gA_10 C kb3 c4 rb5 (dk kX5_readableAt 8 rfl) ?_
  refine gIN_3_0 C kb5 (nf_10 C) (dk kX5_readableAt 9 rfl) ?_
  obtain ⟨μ7, eq6, h⟩ := bd_inv h
  refine g_callV C E.2 (rest := []) 3 (ct_X3_takePart kb1 kb2 eq6) wd_2_201 mm_X3_takePart ⟨rfl, by decide, by decide, by decide⟩ rfl (by decide) kb1 (by decide) rfl rfl (Nat.le_of_ble_eq_true rfl) (by decide) (dk kX5_readableAt 10 rfl) ?_
  refine g_iconst C (v := 0) (by decide) (dk kX5_readableAt 11 rfl) ?_
  refine g_istore_n C (i := 3) (lv' := [(3, .int 0), (0, .ref (za Z a0)), (1, .int a1), (2, .int a2)]) (dk kX5_readableAt 12 rfl) rfl (by decide) rfl ?_
  obtain ⟨q21, eq21, h⟩ := bd_inv h
  refine g_sub [1, 2, 0] (lv' := [(0, .ref (za Z a0)), (1, .int a1), (3, .int 0)]) rfl ?_
  refine gl_X5_readableAt_23 a0 a1 k0 C E.2 FU μ7 0 _ eq21 ?_
  obtain ⟨x22, ex22, h⟩ := lt_inv h
  obtain ⟨μ23, eμ23, h⟩ := lt_inv h
  rw [← ex22, ← eμ23]
  refine g_iload_n C (i := 3) 0 rfl rfl (dk kX5_readableAt 33 rfl) ?_
  cases h
  exact g_iret C E rfl rfl (Nat.le_refl 0) (Nat.le_refl 0) (dk kX5_readableAt 34 rfl)
theorem ct_X5_readableAt {l : Launch} {Z : ZZ} {μ : Mm} {a0 : Nat} {a1 : Int32} {a2 : Int32} {r : Int32} {μ' : Mm} (k0 : (zk Z a0).1 = 4) (h : f_X5_readableAt (zk Z) μ a0 a1 a2 = some (r, μ')) : CtM l Z false yX5_readableAt cX5_readableAt 4 (some .int) 2 0 0 [.ref (za Z a0), .int a1, .int a2] μ (some (.int r)) Z μ' := ct_of rfl rfl (Nat.le_of_ble_eq_true rfl) (fun X C E => t_X5_readableAt μ a0 a1 a2 r μ' k0 h C E)

def qX5_takeOver : List (Nat × Instr × Nat) := [(0, .aload_n 0, 1), (1, .getfield 12, 3), (4, .aload_n 1, 1), (5, .getfield 12, 3), (8, .invokevirtual 48, 3), (11, .aload_n 1, 1), (12, .getfield 18, 3), (15, .iconst 0, 1), (16, .aload_n 0, 1), (17, .getfield 18, 3), (20, .iconst 0, 1), (21, .bipush 7, 2), (23, .invokestatic 40, 3), (26, .iconst 0, 1), (27, .istore_n 2, 1), (28, .iload_n 2, 1), (29, .bipush 6, 2), (31, .if_icmp .ge 24, 3), (34, .aload_n 0, 1), (35, .getfield 24, 3), (38, .iload_n 2, 1), (39, .aaload, 1), (40, .aload_n 1, 1), (41, .getfield 24, 3), (44, .iload_n 2, 1), (45, .aaload, 1), (46, .invokevirtual 52, 3), (49, .iinc 2 1, 3), (52, .goto (-24), 3), (55, .aload_n 0, 1), (56, .aload_n 1, 1), (57, .getfield 55, 3), (60, .putfield 55, 3), (63, .iconst 0, 1), (64, .istore_n 2, 1), (65, .iload_n 2, 1), (66, .bipush 6, 2), (68, .if_icmp .ge 24, 3), (71, .aload_n 0, 1), (72, .getfield 30, 3), (75, .iload_n 2, 1), (76, .aaload, 1), (77, .aload_n 1, 1), (78, .getfield 30, 3), (81, .iload_n 2, 1), (82, .aaload, 1), (83, .invokevirtual 59, 3), (86, .iinc 2 1, 3), (89, .goto (-24), 3), (92, .aload_n 0, 1), (93, .aload_n 1, 1), (94, .getfield 62, 3), (97, .putfield 62, 3), (100, .aload_n 0, 1), (101, .aload_n 1, 1), (102, .getfield 65, 3), (105, .putfield 65, 3), (108, .return_, 1)]
theorem kX5_takeOver : ∀ q ∈ qX5_takeOver, decode cX5_takeOver q.1 = .ok q.2 := by decide +kernel
def f_X5_takeOver_l28 (K : Nat → Nat × Nat) (v0 : Nat) (v1 : Nat) : Nat → Mm → Int32 → Option (Mm)
  | 0, _, _ => none
  | n + 1, μ, v2 => if 6 ≤ v2 then (some μ) else (bd (rf K μ v0 3 10) fun b10 => gd (inb v2 (K b10).2) <| bd (rf K μ b10 (ix v2) 3) fun b12 => bd (rf K μ v1 3 10) fun b13 => gd (inb v2 (K b13).2) <| bd (rf K μ b13 (ix v2) 3) fun b15 => bd (f_X4_takeOver K μ b12 b15) fun μ17 => lt1 (α := Int32) (v2 + 1) fun x18 => f_X5_takeOver_l28 K v0 v1 n μ17 x18)
def f_X5_takeOver_l65 (K : Nat → Nat × Nat) (v0 : Nat) (v1 : Nat) : Nat → Mm → Int32 → Option (Mm)
  | 0, _, _ => none
  | n + 1, μ, v2 => if 6 ≤ v2 then (some μ) else (bd (rf K μ v0 5 9) fun b23 => gd (inb v2 (K b23).2) <| bd (rf K μ b23 (ix v2) 1) fun b25 => bd (rf K μ v1 5 9) fun b26 => gd (inb v2 (K b26).2) <| bd (rf K μ b26 (ix v2) 1) fun b28 => bd (f_X2_takeOver K μ b25 b28) fun μ30 => lt1 (α := Int32) (v2 + 1) fun x31 => f_X5_takeOver_l65 K v0 v1 n μ30 x31)
def f_X5_takeOver (K : Nat → Nat × Nat) (μ : Mm) (a0 : Nat) (a1 : Nat) : Option (Mm) :=
  bd (rf K μ a0 0 2) fun b1 => bd (rf K μ a1 0 2) fun b2 => bd (f_X3_takeOver K μ b1 b2) fun μ4 => bd (rf K μ4 a1 2 8) fun b5 => bd (rf K μ4 a0 2 8) fun b6 => gd (okc 0 0 7 (K b5).2 (K b6).2) <| lt1 (sIr μ4 b6 (va_cpy (μ4.1 b5) (μ4.1 b6) (ix 0) (ix 0) (ix 7))) fun μ8 => bd (f_X5_takeOver_l28 K a0 a1 FU μ8 0) fun q19 => lt1 q19 fun μ20 => lt1 (sI μ20 a0 4 (μ20.1 a1 4)) fun μ21 => bd (f_X5_takeOver_l65 K a0 a1 FU μ21 0) fun q32 => lt1 q32 fun μ33 => lt1 (sI μ33 a0 6 (μ33.1 a1 6)) fun μ34 => lt1 (sI μ34 a0 7 (μ34.1 a1 7)) fun μ35 => some (μ35)
set_option maxRecDepth 100000 in
set_option maxHeartbeats 4000000 in
theorem gl_X5_takeOver_28 {l : Launch} {Z : ZZ} {X : XX} (v0 : Nat) (v1 : Nat) (k0 : (zk Z v0).1 = 4) (k1 : (zk Z v1).1 = 4) (C : Cx l Z false X cX5_takeOver RX5 3 none) (E : xR X = rmm 2 0 0) : ∀ (n : Nat) (μ : Mm) (v2 : Int32) (y : Mm), f_X5_takeOver_l28 (zk Z) v0 v1 n μ v2 = some y → G Z X 3 0 0 55 [(0, .ref (za Z v0)), (1, .ref (za Z v1))] [] y → G Z X 3 0 0 28 [(0, .ref (za Z v0)), (1, .ref (za Z v1)), (2, .int v2)] [] μ := by
  intro n
  induction n with
  | zero => intro μ v2 y h he; unfold f_X5_takeOver_l28 at h; cases h
  | succ n ih =>
    intro μ v2 y h he
    unfold f_X5_takeOver_l28 at h
    refine g_iload_n C (i := 2) 2 rfl rfl (dk kX5_takeOver 15 rfl) ?_
    refine g_bipush C (v := 6) (by decide) (dk kX5_takeOver 16 rfl) ?_
    refine g_icmp_ge C (tgt := 55) (dk kX5_takeOver 17 rfl) (by decide) (fun c9 => ?_) (fun c9 => ?_)
    · replace h := ite_t h c9
      cases h
      exact g_sub [0, 1] rfl he
    · replace h := ite_f h c9
      refine g_aload_n C (i := 0) 0 rfl rfl (dk kX5_takeOver 18 rfl) ?_
      obtain ⟨b10, eb10, h⟩ := bd_inv h
      obtain ⟨rb10, kb10⟩ := rf_inv eb10
      refine gR_4_3 C k0 (C.w wd_1_174) rb10 (dk kX5_takeOver 19 rfl) ?_
      refine g_iload_n C (i := 2) 2 rfl rfl (dk kX5_takeOver 20 rfl) ?_
      obtain ⟨c11, h⟩ := gd_inv h
      obtain ⟨b12, eb12, h⟩ := bd_inv h
      obtain ⟨rb12, kb12⟩ := rf_inv eb12
      refine gA_10 C kb10 c11 rb12 (dk kX5_takeOver 21 rfl) ?_
      refine g_aload_n C (i := 1) 1 rfl rfl (dk kX5_takeOver 22 rfl) ?_
      obtain ⟨b13, eb13, h⟩ := bd_inv h
      obtain ⟨rb13, kb13⟩ := rf_inv eb13
      refine gR_4_3 C k1 (C.w wd_1_174) rb13 (dk kX5_takeOver 23 rfl) ?_
      refine g_iload_n C (i := 2) 2 rfl rfl (dk kX5_takeOver 24 rfl) ?_
      obtain ⟨c14, h⟩ := gd_inv h
      obtain ⟨b15, eb15, h⟩ := bd_inv h
      obtain ⟨rb15, kb15⟩ := rf_inv eb15
      refine gA_10 C kb13 c14 rb15 (dk kX5_takeOver 25 rfl) ?_
      obtain ⟨μ17, eq16, h⟩ := bd_inv h
      refine g_callV C E (rest := []) 1 (ct_X4_takeOver kb12 kb15 eq16) wd_2_96 mm_X4_takeOver ⟨rfl, by decide, by decide, by decide⟩ rfl (by decide) kb12 (by decide) rfl rfl (Nat.le_of_ble_eq_true rfl) (by decide) (dk kX5_takeOver 26 rfl) ?_
      obtain ⟨x18, ex18, h⟩ := lt_inv h
      refine g_iinc C (i := 2) (v := x18) (lv' := [(2, .int x18), (0, .ref (za Z v0)), (1, .ref (za Z v1))]) 2 (dk kX5_takeOver 27 rfl) rfl (by rw [ex18]; rfl) (by decide) rfl ?_
      refine g_goto C (tgt := 28) (dk kX5_takeOver 28 rfl) (by decide) ?_
      exact g_sub [1, 2, 0] rfl (ih μ17 x18 y h he)
set_option maxRecDepth 100000 in
set_option maxHeartbeats 4000000 in
theorem gl_X5_takeOver_65 {l : Launch} {Z : ZZ} {X : XX} (v0 : Nat) (v1 : Nat) (k0 : (zk Z v0).1 = 4) (k1 : (zk Z v1).1 = 4) (C : Cx l Z false X cX5_takeOver RX5 3 none) (E : xR X = rmm 2 0 0) : ∀ (n : Nat) (μ : Mm) (v2 : Int32) (y : Mm), f_X5_takeOver_l65 (zk Z) v0 v1 n μ v2 = some y → G Z X 3 0 0 92 [(0, .ref (za Z v0)), (1, .ref (za Z v1))] [] y → G Z X 3 0 0 65 [(0, .ref (za Z v0)), (1, .ref (za Z v1)), (2, .int v2)] [] μ := by
  intro n
  induction n with
  | zero => intro μ v2 y h he; unfold f_X5_takeOver_l65 at h; cases h
  | succ n ih =>
    intro μ v2 y h he
    unfold f_X5_takeOver_l65 at h
    refine g_iload_n C (i := 2) 2 rfl rfl (dk kX5_takeOver 35 rfl) ?_
    refine g_bipush C (v := 6) (by decide) (dk kX5_takeOver 36 rfl) ?_
    refine g_icmp_ge C (tgt := 92) (dk kX5_takeOver 37 rfl) (by decide) (fun c22 => ?_) (fun c22 => ?_)
    · replace h := ite_t h c22
      cases h
      exact g_sub [0, 1] rfl he
    · replace h := ite_f h c22
      refine g_aload_n C (i := 0) 0 rfl rfl (dk kX5_takeOver 38 rfl) ?_
      obtain ⟨b23, eb23, h⟩ := bd_inv h
      obtain ⟨rb23, kb23⟩ := rf_inv eb23
      refine gR_4_5 C k0 (C.w wd_1_178) rb23 (dk kX5_takeOver 39 rfl) ?_
      refine g_iload_n C (i := 2) 2 rfl rfl (dk kX5_takeOver 40 rfl) ?_
      obtain ⟨c24, h⟩ := gd_inv h
      obtain ⟨b25, eb25, h⟩ := bd_inv h
      obtain ⟨rb25, kb25⟩ := rf_inv eb25
      refine gA_9 C kb23 c24 rb25 (dk kX5_takeOver 41 rfl) ?_
      refine g_aload_n C (i := 1) 1 rfl rfl (dk kX5_takeOver 42 rfl) ?_
      obtain ⟨b26, eb26, h⟩ := bd_inv h
      obtain ⟨rb26, kb26⟩ := rf_inv eb26
      refine gR_4_5 C k1 (C.w wd_1_178) rb26 (dk kX5_takeOver 43 rfl) ?_
      refine g_iload_n C (i := 2) 2 rfl rfl (dk kX5_takeOver 44 rfl) ?_
      obtain ⟨c27, h⟩ := gd_inv h
      obtain ⟨b28, eb28, h⟩ := bd_inv h
      obtain ⟨rb28, kb28⟩ := rf_inv eb28
      refine gA_9 C kb26 c27 rb28 (dk kX5_takeOver 45 rfl) ?_
      obtain ⟨μ30, eq29, h⟩ := bd_inv h
      refine g_callV C E (rest := []) 1 (ct_X2_takeOver kb25 kb28 eq29) wd_2_101 mm_X2_takeOver ⟨rfl, by decide, by decide, by decide⟩ rfl (by decide) kb25 (by decide) rfl rfl (Nat.le_of_ble_eq_true rfl) (by decide) (dk kX5_takeOver 46 rfl) ?_
      obtain ⟨x31, ex31, h⟩ := lt_inv h
      refine g_iinc C (i := 2) (v := x31) (lv' := [(2, .int x31), (0, .ref (za Z v0)), (1, .ref (za Z v1))]) 2 (dk kX5_takeOver 47 rfl) rfl (by rw [ex31]; rfl) (by decide) rfl ?_
      refine g_goto C (tgt := 65) (dk kX5_takeOver 48 rfl) (by decide) ?_
      exact g_sub [1, 2, 0] rfl (ih μ30 x31 y h he)
set_option maxRecDepth 100000 in
set_option maxHeartbeats 4000000 in
theorem t_X5_takeOver {l : Launch} {Z : ZZ} {X : XX} (μ : Mm) (a0 : Nat) (a1 : Nat) (μ' : Mm) (k0 : (zk Z a0).1 = 4) (k1 : (zk Z a1).1 = 4) (h : f_X5_takeOver (zk Z) μ a0 a1 = some μ') (C : Cx l Z false X cX5_takeOver RX5 3 none) (E : Ex Z X 2 0 0 none Z μ') : G Z X 3 0 0 0 [(0, .ref (za Z a0)), (1, .ref (za Z a1))] [] μ := by
  unfold f_X5_takeOver at h
  refine g_aload_n C (i := 0) 0 rfl rfl (dk kX5_takeOver 0 rfl) ?_
  obtain ⟨b1, eb1, h⟩ := bd_inv h
  obtain ⟨rb1, kb1⟩ := rf_inv eb1
  refine gR_4_0 C k0 (C.w wd_1_170) rb1 (dk kX5_takeOver 1 rfl) ?_
  refine g_aload_n C (i := 1) 1 rfl rfl (dk kX5_takeOver 2 rfl) ?_
  obtain ⟨b2, eb2, h⟩ := bd_inv h
  obtain ⟨rb2, kb2⟩ := rf_inv eb2
  refine gR_4_0 C k1 (C.w wd_1_170) rb2 (dk kX5_takeOver 3 rfl) ?_
  obtain ⟨μ4, eq3, h⟩ := bd_inv h
  refine g_callV C E.2 (rest := []) 1 (ct_X3_takeOver kb1 kb2 eq3) wd_2_91 mm_X3_takeOver ⟨rfl, by decide, by decide, by decide⟩ rfl (by decide) kb1 (by decide) rfl rfl (Nat.le_of_ble_eq_true rfl) (by decide) (dk kX5_takeOver 4 rfl) ?_
  refine g_aload_n C (i := 1) 1 rfl rfl (dk kX5_takeOver 5 rfl) ?_
  obtain ⟨b5, eb5, h⟩ := bd_inv h
  obtain ⟨rb5, kb5⟩ := rf_inv eb5
  refine gR_4_2 C k1 (C.w wd_1_173) rb5 (dk kX5_takeOver 6 rfl) ?_
  refine g_iconst C (v := 0) (by decide) (dk kX5_takeOver 7 rfl) ?_
  refine g_aload_n C (i := 0) 0 rfl rfl (dk kX5_takeOver 8 rfl) ?_
  obtain ⟨b6, eb6, h⟩ := bd_inv h
  obtain ⟨rb6, kb6⟩ := rf_inv eb6
  refine gR_4_2 C k0 (C.w wd_1_173) rb6 (dk kX5_takeOver 9 rfl) ?_
  refine g_iconst C (v := 0) (by decide) (dk kX5_takeOver 10 rfl) ?_
  refine g_bipush C (v := 7) (by decide) (dk kX5_takeOver 11 rfl) ?_
  obtain ⟨c7, h⟩ := gd_inv h
  obtain ⟨μ8, eμ8, h⟩ := lt_inv h
  refine g_copy C E.2 kb5 kb6 c7 (by decide) (Nat.le_of_ble_eq_true rfl) (C.w wd_1_107) (C.w wd_1_109) (C.w wd_1_108) (C.w wd_1_7) eμ8 (dk kX5_takeOver 12 rfl) ?_
  refine g_iconst C (v := 0) (by decide) (dk kX5_takeOver 13 rfl) ?_
  refine g_istore_n C (i := 2) (lv' := [(2, .int 0), (0, .ref (za Z a0)), (1, .ref (za Z a1))]) (dk kX5_takeOver 14 rfl) rfl (by decide) rfl ?_
  obtain ⟨q19, eq19, h⟩ := bd_inv h
  refine g_sub [1, 2, 0] (lv' := [(0, .ref (za Z a0)), (1, .ref (za Z a1)), (2, .int 0)]) rfl ?_
  refine gl_X5_takeOver_28 a0 a1 k0 k1 C E.2 FU μ8 0 _ eq19 ?_
  obtain ⟨μ20, eμ20, h⟩ := lt_inv h
  rw [← eμ20]
  refine g_aload_n C (i := 0) 0 rfl rfl (dk kX5_takeOver 29 rfl) ?_
  refine g_aload_n C (i := 1) 1 rfl rfl (dk kX5_takeOver 30 rfl) ?_
  refine gI_4_4 C k1 (C.w wd_1_176) (dk kX5_takeOver 31 rfl) ?_
  obtain ⟨μ21, eμ21, h⟩ := lt_inv h
  refine pI_4_4 C k0 (C.w wd_1_176) eμ21 (dk kX5_takeOver 32 rfl) ?_
  refine g_iconst C (v := 0) (by decide) (dk kX5_takeOver 33 rfl) ?_
  refine g_istore_n C (i := 2) (lv' := [(2, .int 0), (0, .ref (za Z a0)), (1, .ref (za Z a1))]) (dk kX5_takeOver 34 rfl) rfl (by decide) rfl ?_
  obtain ⟨q32, eq32, h⟩ := bd_inv h
  refine g_sub [1, 2, 0] (lv' := [(0, .ref (za Z a0)), (1, .ref (za Z a1)), (2, .int 0)]) rfl ?_
  refine gl_X5_takeOver_65 a0 a1 k0 k1 C E.2 FU μ21 0 _ eq32 ?_
  obtain ⟨μ33, eμ33, h⟩ := lt_inv h
  rw [← eμ33]
  refine g_aload_n C (i := 0) 0 rfl rfl (dk kX5_takeOver 49 rfl) ?_
  refine g_aload_n C (i := 1) 1 rfl rfl (dk kX5_takeOver 50 rfl) ?_
  refine gI_4_6 C k1 (C.w wd_1_180) (dk kX5_takeOver 51 rfl) ?_
  obtain ⟨μ34, eμ34, h⟩ := lt_inv h
  refine pI_4_6 C k0 (C.w wd_1_180) eμ34 (dk kX5_takeOver 52 rfl) ?_
  refine g_aload_n C (i := 0) 0 rfl rfl (dk kX5_takeOver 53 rfl) ?_
  refine g_aload_n C (i := 1) 1 rfl rfl (dk kX5_takeOver 54 rfl) ?_
  refine gI_4_7 C k1 (C.w wd_1_182) (dk kX5_takeOver 55 rfl) ?_
  obtain ⟨μ35, eμ35, h⟩ := lt_inv h
  refine pI_4_7 C k0 (C.w wd_1_182) eμ35 (dk kX5_takeOver 56 rfl) ?_
  cases h
  exact g_vret C E (Nat.le_refl 0) (Nat.le_refl 0) (dk kX5_takeOver 57 rfl)
theorem ct_X5_takeOver {l : Launch} {Z : ZZ} {μ : Mm} {a0 : Nat} {a1 : Nat} {μ' : Mm} (k0 : (zk Z a0).1 = 4) (k1 : (zk Z a1).1 = 4) (h : f_X5_takeOver (zk Z) μ a0 a1 = some μ') : CtM l Z false yX5_takeOver cX5_takeOver 3 none 2 0 0 [.ref (za Z a0), .ref (za Z a1)] μ none Z μ' := ct_of rfl rfl (Nat.le_of_ble_eq_true rfl) (fun X C E => t_X5_takeOver μ a0 a1 μ' k0 k1 h C E)

def qX5_wholeValue : List (Nat × Instr × Nat) := [(0, .iload_n 1, 1), (1, .iconst 1, 1), (2, .if_icmp .lt 18, 3), (5, .iload_n 1, 1), (6, .bipush 7, 2), (8, .if_icmp .gt 12, 3), (11, .aload_n 0, 1), (12, .getfield 18, 3), (15, .iload_n 1, 1), (16, .iconst 1, 1), (17, .isub, 1), (18, .iaload, 1), (19, .ireturn, 1), (20, .iload_n 1, 1), (21, .tableswitch 130 0 15 #[79, 130, 130, 130, 130, 130, 130, 130, 87, 92, 97, 102, 110, 115, 120, 125], 79), (100, .aload_n 0, 1), (101, .getfield 12, 3), (104, .getfield 68, 3), (107, .ireturn, 1), (108, .aload_n 0, 1), (109, .getfield 55, 3), (112, .ireturn, 1), (113, .aload_n 0, 1), (114, .getfield 62, 3), (117, .ireturn, 1), (118, .aload_n 0, 1), (119, .invokevirtual 71, 3), (122, .ireturn, 1), (123, .aload_n 0, 1), (124, .getfield 12, 3), (127, .getfield 194, 3), (130, .ireturn, 1), (131, .aload_n 0, 1), (132, .invokevirtual 197, 3), (135, .ireturn, 1), (136, .aload_n 0, 1), (137, .invokevirtual 200, 3), (140, .ireturn, 1), (141, .aload_n 0, 1), (142, .invokevirtual 203, 3), (145, .ireturn, 1), (146, .aload_n 0, 1), (147, .invokevirtual 132, 3), (150, .ireturn, 1), (151, .aload_n 0, 1), (152, .getfield 65, 3), (155, .ireturn, 1)]
theorem kX5_wholeValue : ∀ q ∈ qX5_wholeValue, decode cX5_wholeValue q.1 = .ok q.2 := by decide +kernel
def f_X5_wholeValue (K : Nat → Nat × Nat) (μ : Mm) (a0 : Nat) (a1 : Int32) : Option (Int32) :=
  if a1 < 1 then (if a1 = 0 then (bd (rf K μ a0 0 2) fun b3 => some (μ.1 b3 0)) else (if a1 = 1 then (some (μ.1 a0 7)) else (if a1 = 2 then (some (μ.1 a0 7)) else (if a1 = 3 then (some (μ.1 a0 7)) else (if a1 = 4 then (some (μ.1 a0 7)) else (if a1 = 5 then (some (μ.1 a0 7)) else (if a1 = 6 then (some (μ.1 a0 7)) else (if a1 = 7 then (some (μ.1 a0 7)) else (if a1 = 8 then (some (μ.1 a0 4)) else (if a1 = 9 then (some (μ.1 a0 6)) else (if a1 = 10 then (bd (f_X5_allWear K μ a0) fun x15 => some x15) else (if a1 = 11 then (bd (rf K μ a0 0 2) fun b17 => some (μ.1 b17 1)) else (if a1 = 12 then (bd (f_X5_allPrinted K μ a0) fun x20 => some x20) else (if a1 = 13 then (bd (f_X5_allFailed K μ a0) fun x23 => some x23) else (if a1 = 14 then (bd (f_X5_allEarned K μ a0) fun x26 => some x26) else (if a1 = 15 then (bd (f_X5_allRented K μ a0) fun x29 => some x29) else (some (μ.1 a0 7)))))))))))))))))) else (if 7 < a1 then (if a1 = 0 then (bd (rf K μ a0 0 2) fun b32 => some (μ.1 b32 0)) else (if a1 = 1 then (some (μ.1 a0 7)) else (if a1 = 2 then (some (μ.1 a0 7)) else (if a1 = 3 then (some (μ.1 a0 7)) else (if a1 = 4 then (some (μ.1 a0 7)) else (if a1 = 5 then (some (μ.1 a0 7)) else (if a1 = 6 then (some (μ.1 a0 7)) else (if a1 = 7 then (some (μ.1 a0 7)) else (if a1 = 8 then (some (μ.1 a0 4)) else (if a1 = 9 then (some (μ.1 a0 6)) else (if a1 = 10 then (bd (f_X5_allWear K μ a0) fun x44 => some x44) else (if a1 = 11 then (bd (rf K μ a0 0 2) fun b46 => some (μ.1 b46 1)) else (if a1 = 12 then (bd (f_X5_allPrinted K μ a0) fun x49 => some x49) else (if a1 = 13 then (bd (f_X5_allFailed K μ a0) fun x52 => some x52) else (if a1 = 14 then (bd (f_X5_allEarned K μ a0) fun x55 => some x55) else (if a1 = 15 then (bd (f_X5_allRented K μ a0) fun x58 => some x58) else (some (μ.1 a0 7)))))))))))))))))) else (bd (rf K μ a0 2 8) fun b59 => gd (inb (a1 - 1) (K b59).2) <| some (μ.1 b59 (ix (a1 - 1)))))
set_option maxRecDepth 100000 in
set_option maxHeartbeats 4000000 in
theorem t_X5_wholeValue {l : Launch} {Z : ZZ} {X : XX} (μ : Mm) (a0 : Nat) (a1 : Int32) (r : Int32) (k0 : (zk Z a0).1 = 4) (h : f_X5_wholeValue (zk Z) μ a0 a1 = some r) (C : Cx l Z false X cX5_wholeValue RX5 2 (some .int)) (E : Ex Z X 2 0 0 (some (.int r)) Z μ) : G Z X 2 0 0 0 [(0, .ref (za Z a0)), (1, .int a1)] [] μ := by
  unfold f_X5_wholeValue at h
  refine g_iload_n C (i := 1) 1 rfl rfl (dk kX5_wholeValue 0 rfl) ?_
  refine g_iconst C (v := 1) (by decide) (dk kX5_wholeValue 1 rfl) ?_
  refine g_icmp_lt C (tgt := 20) (dk kX5_wholeValue 2 rfl) (by decide) (fun c1 => ?_) (fun c1 => ?_)
  · replace h := ite_t h c1
    refine g_iload_n C (i := 1) 1 rfl rfl (dk kX5_wholeValue 13 rfl) ?_
    by_cases c2 : a1 = 0
    · replace h := ite_t h c2
      refine g_tin C (tgt := 100) (dk kX5_wholeValue 14 rfl) (by rw [c2]; decide) (by rw [c2]; decide) (by rw [c2]; rfl) (by decide) ?_
      refine g_aload_n C (i := 0) 0 rfl rfl (dk kX5_wholeValue 15 rfl) ?_
      obtain ⟨b3, eb3, h⟩ := bd_inv h
      obtain ⟨rb3, kb3⟩ := rf_inv eb3
      refine gR_4_0 C k0 (C.w wd_1_170) rb3 (dk kX5_wholeValue 16 rfl) ?_
      refine gIN_2_0 C kb3 (nf_3 C) (dk kX5_wholeValue 17 rfl) ?_
      cases h
      exact g_iret C E rfl rfl (Nat.le_refl 0) (Nat.le_refl 0) (dk kX5_wholeValue 18 rfl)
    · replace h := ite_f h c2
      by_cases c4 : a1 = 1
      · replace h := ite_t h c4
        refine g_tin C (tgt := 151) (dk kX5_wholeValue 14 rfl) (by rw [c4]; decide) (by rw [c4]; decide) (by rw [c4]; rfl) (by decide) ?_
        refine g_aload_n C (i := 0) 0 rfl rfl (dk kX5_wholeValue 44 rfl) ?_
        refine gI_4_7 C k0 (C.w wd_1_182) (dk kX5_wholeValue 45 rfl) ?_
        cases h
        exact g_iret C E rfl rfl (Nat.le_refl 0) (Nat.le_refl 0) (dk kX5_wholeValue 46 rfl)
      · replace h := ite_f h c4
        by_cases c5 : a1 = 2
        · replace h := ite_t h c5
          refine g_tin C (tgt := 151) (dk kX5_wholeValue 14 rfl) (by rw [c5]; decide) (by rw [c5]; decide) (by rw [c5]; rfl) (by decide) ?_
          refine g_aload_n C (i := 0) 0 rfl rfl (dk kX5_wholeValue 44 rfl) ?_
          refine gI_4_7 C k0 (C.w wd_1_182) (dk kX5_wholeValue 45 rfl) ?_
          cases h
          exact g_iret C E rfl rfl (Nat.le_refl 0) (Nat.le_refl 0) (dk kX5_wholeValue 46 rfl)
        · replace h := ite_f h c5
          by_cases c6 : a1 = 3
          · replace h := ite_t h c6
            refine g_tin C (tgt := 151) (dk kX5_wholeValue 14 rfl) (by rw [c6]; decide) (by rw [c6]; decide) (by rw [c6]; rfl) (by decide) ?_
            refine g_aload_n C (i := 0) 0 rfl rfl (dk kX5_wholeValue 44 rfl) ?_
            refine gI_4_7 C k0 (C.w wd_1_182) (dk kX5_wholeValue 45 rfl) ?_
            cases h
            exact g_iret C E rfl rfl (Nat.le_refl 0) (Nat.le_refl 0) (dk kX5_wholeValue 46 rfl)
          · replace h := ite_f h c6
            by_cases c7 : a1 = 4
            · replace h := ite_t h c7
              refine g_tin C (tgt := 151) (dk kX5_wholeValue 14 rfl) (by rw [c7]; decide) (by rw [c7]; decide) (by rw [c7]; rfl) (by decide) ?_
              refine g_aload_n C (i := 0) 0 rfl rfl (dk kX5_wholeValue 44 rfl) ?_
              refine gI_4_7 C k0 (C.w wd_1_182) (dk kX5_wholeValue 45 rfl) ?_
              cases h
              exact g_iret C E rfl rfl (Nat.le_refl 0) (Nat.le_refl 0) (dk kX5_wholeValue 46 rfl)
            · replace h := ite_f h c7
              by_cases c8 : a1 = 5
              · replace h := ite_t h c8
                refine g_tin C (tgt := 151) (dk kX5_wholeValue 14 rfl) (by rw [c8]; decide) (by rw [c8]; decide) (by rw [c8]; rfl) (by decide) ?_
                refine g_aload_n C (i := 0) 0 rfl rfl (dk kX5_wholeValue 44 rfl) ?_
                refine gI_4_7 C k0 (C.w wd_1_182) (dk kX5_wholeValue 45 rfl) ?_
                cases h
                exact g_iret C E rfl rfl (Nat.le_refl 0) (Nat.le_refl 0) (dk kX5_wholeValue 46 rfl)
              · replace h := ite_f h c8
                by_cases c9 : a1 = 6
                · replace h := ite_t h c9
                  refine g_tin C (tgt := 151) (dk kX5_wholeValue 14 rfl) (by rw [c9]; decide) (by rw [c9]; decide) (by rw [c9]; rfl) (by decide) ?_
                  refine g_aload_n C (i := 0) 0 rfl rfl (dk kX5_wholeValue 44 rfl) ?_
                  refine gI_4_7 C k0 (C.w wd_1_182) (dk kX5_wholeValue 45 rfl) ?_
                  cases h
                  exact g_iret C E rfl rfl (Nat.le_refl 0) (Nat.le_refl 0) (dk kX5_wholeValue 46 rfl)
                · replace h := ite_f h c9
                  by_cases c10 : a1 = 7
                  · replace h := ite_t h c10
                    refine g_tin C (tgt := 151) (dk kX5_wholeValue 14 rfl) (by rw [c10]; decide) (by rw [c10]; decide) (by rw [c10]; rfl) (by decide) ?_
                    refine g_aload_n C (i := 0) 0 rfl rfl (dk kX5_wholeValue 44 rfl) ?_
                    refine gI_4_7 C k0 (C.w wd_1_182) (dk kX5_wholeValue 45 rfl) ?_
                    cases h
                    exact g_iret C E rfl rfl (Nat.le_refl 0) (Nat.le_refl 0) (dk kX5_wholeValue 46 rfl)
                  · replace h := ite_f h c10
                    by_cases c11 : a1 = 8
                    · replace h := ite_t h c11
                      refine g_tin C (tgt := 108) (dk kX5_wholeValue 14 rfl) (by rw [c11]; decide) (by rw [c11]; decide) (by rw [c11]; rfl) (by decide) ?_
                      refine g_aload_n C (i := 0) 0 rfl rfl (dk kX5_wholeValue 19 rfl) ?_
                      refine gI_4_4 C k0 (C.w wd_1_176) (dk kX5_wholeValue 20 rfl) ?_
                      cases h
                      exact g_iret C E rfl rfl (Nat.le_refl 0) (Nat.le_refl 0) (dk kX5_wholeValue 21 rfl)
                    · replace h := ite_f h c11
                      by_cases c12 : a1 = 9
                      · replace h := ite_t h c12
                        refine g_tin C (tgt := 113) (dk kX5_wholeValue 14 rfl) (by rw [c12]; decide) (by rw [c12]; decide) (by rw [c12]; rfl) (by decide) ?_
                        refine g_aload_n C (i := 0) 0 rfl rfl (dk kX5_wholeValue 22 rfl) ?_
                        refine gI_4_6 C k0 (C.w wd_1_180) (dk kX5_wholeValue 23 rfl) ?_
                        cases h
                        exact g_iret C E rfl rfl (Nat.le_refl 0) (Nat.le_refl 0) (dk kX5_wholeValue 24 rfl)
                      · replace h := ite_f h c12
                        by_cases c13 : a1 = 10
                        · replace h := ite_t h c13
                          refine g_tin C (tgt := 118) (dk kX5_wholeValue 14 rfl) (by rw [c13]; decide) (by rw [c13]; decide) (by rw [c13]; rfl) (by decide) ?_
                          refine g_aload_n C (i := 0) 0 rfl rfl (dk kX5_wholeValue 25 rfl) ?_
                          obtain ⟨x15, eq14, h⟩ := bd_inv h
                          refine g_callV C E.2 (rest := []) 0 (ct_X5_allWear k0 eq14) wd_3_20 mm_X5_allWear ⟨rfl, by decide, by decide, by decide⟩ rfl (by decide) k0 (by decide) rfl rfl (Nat.le_of_ble_eq_true rfl) (by decide) (dk kX5_wholeValue 26 rfl) ?_
                          cases h
                          exact g_iret C E rfl rfl (Nat.le_refl 0) (Nat.le_refl 0) (dk kX5_wholeValue 27 rfl)
                        · replace h := ite_f h c13
                          by_cases c16 : a1 = 11
                          · replace h := ite_t h c16
                            refine g_tin C (tgt := 123) (dk kX5_wholeValue 14 rfl) (by rw [c16]; decide) (by rw [c16]; decide) (by rw [c16]; rfl) (by decide) ?_
                            refine g_aload_n C (i := 0) 0 rfl rfl (dk kX5_wholeValue 28 rfl) ?_
                            obtain ⟨b17, eb17, h⟩ := bd_inv h
                            obtain ⟨rb17, kb17⟩ := rf_inv eb17
                            refine gR_4_0 C k0 (C.w wd_1_170) rb17 (dk kX5_wholeValue 29 rfl) ?_
                            refine gIN_2_1 C kb17 (nf_5 C) (dk kX5_wholeValue 30 rfl) ?_
                            cases h
                            exact g_iret C E rfl rfl (Nat.le_refl 0) (Nat.le_refl 0) (dk kX5_wholeValue 31 rfl)
                          · replace h := ite_f h c16
                            by_cases c18 : a1 = 12
                            · replace h := ite_t h c18
                              refine g_tin C (tgt := 131) (dk kX5_wholeValue 14 rfl) (by rw [c18]; decide) (by rw [c18]; decide) (by rw [c18]; rfl) (by decide) ?_
                              refine g_aload_n C (i := 0) 0 rfl rfl (dk kX5_wholeValue 32 rfl) ?_
                              obtain ⟨x20, eq19, h⟩ := bd_inv h
                              refine g_callV C E.2 (rest := []) 0 (ct_X5_allPrinted k0 eq19) wd_3_210 mm_X5_allPrinted ⟨rfl, by decide, by decide, by decide⟩ rfl (by decide) k0 (by decide) rfl rfl (Nat.le_of_ble_eq_true rfl) (by decide) (dk kX5_wholeValue 33 rfl) ?_
                              cases h
                              exact g_iret C E rfl rfl (Nat.le_refl 0) (Nat.le_refl 0) (dk kX5_wholeValue 34 rfl)
                            · replace h := ite_f h c18
                              by_cases c21 : a1 = 13
                              · replace h := ite_t h c21
                                refine g_tin C (tgt := 136) (dk kX5_wholeValue 14 rfl) (by rw [c21]; decide) (by rw [c21]; decide) (by rw [c21]; rfl) (by decide) ?_
                                refine g_aload_n C (i := 0) 0 rfl rfl (dk kX5_wholeValue 35 rfl) ?_
                                obtain ⟨x23, eq22, h⟩ := bd_inv h
                                refine g_callV C E.2 (rest := []) 0 (ct_X5_allFailed k0 eq22) wd_3_214 mm_X5_allFailed ⟨rfl, by decide, by decide, by decide⟩ rfl (by decide) k0 (by decide) rfl rfl (Nat.le_of_ble_eq_true rfl) (by decide) (dk kX5_wholeValue 36 rfl) ?_
                                cases h
                                exact g_iret C E rfl rfl (Nat.le_refl 0) (Nat.le_refl 0) (dk kX5_wholeValue 37 rfl)
                              · replace h := ite_f h c21
                                by_cases c24 : a1 = 14
                                · replace h := ite_t h c24
                                  refine g_tin C (tgt := 141) (dk kX5_wholeValue 14 rfl) (by rw [c24]; decide) (by rw [c24]; decide) (by rw [c24]; rfl) (by decide) ?_
                                  refine g_aload_n C (i := 0) 0 rfl rfl (dk kX5_wholeValue 38 rfl) ?_
                                  obtain ⟨x26, eq25, h⟩ := bd_inv h
                                  refine g_callV C E.2 (rest := []) 0 (ct_X5_allEarned k0 eq25) wd_3_218 mm_X5_allEarned ⟨rfl, by decide, by decide, by decide⟩ rfl (by decide) k0 (by decide) rfl rfl (Nat.le_of_ble_eq_true rfl) (by decide) (dk kX5_wholeValue 39 rfl) ?_
                                  cases h
                                  exact g_iret C E rfl rfl (Nat.le_refl 0) (Nat.le_refl 0) (dk kX5_wholeValue 40 rfl)
                                · replace h := ite_f h c24
                                  by_cases c27 : a1 = 15
                                  · replace h := ite_t h c27
                                    refine g_tin C (tgt := 146) (dk kX5_wholeValue 14 rfl) (by rw [c27]; decide) (by rw [c27]; decide) (by rw [c27]; rfl) (by decide) ?_
                                    refine g_aload_n C (i := 0) 0 rfl rfl (dk kX5_wholeValue 41 rfl) ?_
                                    obtain ⟨x29, eq28, h⟩ := bd_inv h
                                    refine g_callV C E.2 (rest := []) 0 (ct_X5_allRented k0 eq28) wd_3_52 mm_X5_allRented ⟨rfl, by decide, by decide, by decide⟩ rfl (by decide) k0 (by decide) rfl rfl (Nat.le_of_ble_eq_true rfl) (by decide) (dk kX5_wholeValue 42 rfl) ?_
                                    cases h
                                    exact g_iret C E rfl rfl (Nat.le_refl 0) (Nat.le_refl 0) (dk kX5_wholeValue 43 rfl)
                                  · replace h := ite_f h c27
                                    refine g_tout C (tgt := 151) (dk kX5_wholeValue 14 rfl) (by have q0 := lv_neT c2 (a := 0) (by decide); have q1 := lv_neT c4 (a := 1) (by decide); have q2 := lv_neT c5 (a := 2) (by decide); have q3 := lv_neT c6 (a := 3) (by decide); have q4 := lv_neT c7 (a := 4) (by decide); have q5 := lv_neT c8 (a := 5) (by decide); have q6 := lv_neT c9 (a := 6) (by decide); have q7 := lv_neT c10 (a := 7) (by decide); have q8 := lv_neT c11 (a := 8) (by decide); have q9 := lv_neT c12 (a := 9) (by decide); have q10 := lv_neT c13 (a := 10) (by decide); have q11 := lv_neT c16 (a := 11) (by decide); have q12 := lv_neT c18 (a := 12) (by decide); have q13 := lv_neT c21 (a := 13) (by decide); have q14 := lv_neT c24 (a := 14) (by decide); have q15 := lv_neT c27 (a := 15) (by decide); omega) (by decide) ?_
                                    refine g_aload_n C (i := 0) 0 rfl rfl (dk kX5_wholeValue 44 rfl) ?_
                                    refine gI_4_7 C k0 (C.w wd_1_182) (dk kX5_wholeValue 45 rfl) ?_
                                    cases h
                                    exact g_iret C E rfl rfl (Nat.le_refl 0) (Nat.le_refl 0) (dk kX5_wholeValue 46 rfl)
  · replace h := ite_f h c1
    refine g_iload_n C (i := 1) 1 rfl rfl (dk kX5_wholeValue 3 rfl) ?_
    refine g_bipush C (v := 7) (by decide) (dk kX5_wholeValue 4 rfl) ?_
    refine g_icmp_gt C (tgt := 20) (dk kX5_wholeValue 5 rfl) (by decide) (fun c30 => ?_) (fun c30 => ?_)
    · replace h := ite_t h c30
      refine g_iload_n C (i := 1) 1 rfl rfl (dk kX5_wholeValue 13 rfl) ?_
      by_cases c31 : a1 = 0
      · replace h := ite_t h c31
        refine g_tin C (tgt := 100) (dk kX5_wholeValue 14 rfl) (by rw [c31]; decide) (by rw [c31]; decide) (by rw [c31]; rfl) (by decide) ?_
        refine g_aload_n C (i := 0) 0 rfl rfl (dk kX5_wholeValue 15 rfl) ?_
        obtain ⟨b32, eb32, h⟩ := bd_inv h
        obtain ⟨rb32, kb32⟩ := rf_inv eb32
        refine gR_4_0 C k0 (C.w wd_1_170) rb32 (dk kX5_wholeValue 16 rfl) ?_
        refine gIN_2_0 C kb32 (nf_3 C) (dk kX5_wholeValue 17 rfl) ?_
        cases h
        exact g_iret C E rfl rfl (Nat.le_refl 0) (Nat.le_refl 0) (dk kX5_wholeValue 18 rfl)
      · replace h := ite_f h c31
        by_cases c33 : a1 = 1
        · replace h := ite_t h c33
          refine g_tin C (tgt := 151) (dk kX5_wholeValue 14 rfl) (by rw [c33]; decide) (by rw [c33]; decide) (by rw [c33]; rfl) (by decide) ?_
          refine g_aload_n C (i := 0) 0 rfl rfl (dk kX5_wholeValue 44 rfl) ?_
          refine gI_4_7 C k0 (C.w wd_1_182) (dk kX5_wholeValue 45 rfl) ?_
          cases h
          exact g_iret C E rfl rfl (Nat.le_refl 0) (Nat.le_refl 0) (dk kX5_wholeValue 46 rfl)
        · replace h := ite_f h c33
          by_cases c34 : a1 = 2
          · replace h := ite_t h c34
            refine g_tin C (tgt := 151) (dk kX5_wholeValue 14 rfl) (by rw [c34]; decide) (by rw [c34]; decide) (by rw [c34]; rfl) (by decide) ?_
            refine g_aload_n C (i := 0) 0 rfl rfl (dk kX5_wholeValue 44 rfl) ?_
            refine gI_4_7 C k0 (C.w wd_1_182) (dk kX5_wholeValue 45 rfl) ?_
            cases h
            exact g_iret C E rfl rfl (Nat.le_refl 0) (Nat.le_refl 0) (dk kX5_wholeValue 46 rfl)
          · replace h := ite_f h c34
            by_cases c35 : a1 = 3
            · replace h := ite_t h c35
              refine g_tin C (tgt := 151) (dk kX5_wholeValue 14 rfl) (by rw [c35]; decide) (by rw [c35]; decide) (by rw [c35]; rfl) (by decide) ?_
              refine g_aload_n C (i := 0) 0 rfl rfl (dk kX5_wholeValue 44 rfl) ?_
              refine gI_4_7 C k0 (C.w wd_1_182) (dk kX5_wholeValue 45 rfl) ?_
              cases h
              exact g_iret C E rfl rfl (Nat.le_refl 0) (Nat.le_refl 0) (dk kX5_wholeValue 46 rfl)
            · replace h := ite_f h c35
              by_cases c36 : a1 = 4
              · replace h := ite_t h c36
                refine g_tin C (tgt := 151) (dk kX5_wholeValue 14 rfl) (by rw [c36]; decide) (by rw [c36]; decide) (by rw [c36]; rfl) (by decide) ?_
                refine g_aload_n C (i := 0) 0 rfl rfl (dk kX5_wholeValue 44 rfl) ?_
                refine gI_4_7 C k0 (C.w wd_1_182) (dk kX5_wholeValue 45 rfl) ?_
                cases h
                exact g_iret C E rfl rfl (Nat.le_refl 0) (Nat.le_refl 0) (dk kX5_wholeValue 46 rfl)
              · replace h := ite_f h c36
                by_cases c37 : a1 = 5
                · replace h := ite_t h c37
                  refine g_tin C (tgt := 151) (dk kX5_wholeValue 14 rfl) (by rw [c37]; decide) (by rw [c37]; decide) (by rw [c37]; rfl) (by decide) ?_
                  refine g_aload_n C (i := 0) 0 rfl rfl (dk kX5_wholeValue 44 rfl) ?_
                  refine gI_4_7 C k0 (C.w wd_1_182) (dk kX5_wholeValue 45 rfl) ?_
                  cases h
                  exact g_iret C E rfl rfl (Nat.le_refl 0) (Nat.le_refl 0) (dk kX5_wholeValue 46 rfl)
                · replace h := ite_f h c37
                  by_cases c38 : a1 = 6
                  · replace h := ite_t h c38
                    refine g_tin C (tgt := 151) (dk kX5_wholeValue 14 rfl) (by rw [c38]; decide) (by rw [c38]; decide) (by rw [c38]; rfl) (by decide) ?_
                    refine g_aload_n C (i := 0) 0 rfl rfl (dk kX5_wholeValue 44 rfl) ?_
                    refine gI_4_7 C k0 (C.w wd_1_182) (dk kX5_wholeValue 45 rfl) ?_
                    cases h
                    exact g_iret C E rfl rfl (Nat.le_refl 0) (Nat.le_refl 0) (dk kX5_wholeValue 46 rfl)
                  · replace h := ite_f h c38
                    by_cases c39 : a1 = 7
                    · replace h := ite_t h c39
                      refine g_tin C (tgt := 151) (dk kX5_wholeValue 14 rfl) (by rw [c39]; decide) (by rw [c39]; decide) (by rw [c39]; rfl) (by decide) ?_
                      refine g_aload_n C (i := 0) 0 rfl rfl (dk kX5_wholeValue 44 rfl) ?_
                      refine gI_4_7 C k0 (C.w wd_1_182) (dk kX5_wholeValue 45 rfl) ?_
                      cases h
                      exact g_iret C E rfl rfl (Nat.le_refl 0) (Nat.le_refl 0) (dk kX5_wholeValue 46 rfl)
                    · replace h := ite_f h c39
                      by_cases c40 : a1 = 8
                      · replace h := ite_t h c40
                        refine g_tin C (tgt := 108) (dk kX5_wholeValue 14 rfl) (by rw [c40]; decide) (by rw [c40]; decide) (by rw [c40]; rfl) (by decide) ?_
                        refine g_aload_n C (i := 0) 0 rfl rfl (dk kX5_wholeValue 19 rfl) ?_
                        refine gI_4_4 C k0 (C.w wd_1_176) (dk kX5_wholeValue 20 rfl) ?_
                        cases h
                        exact g_iret C E rfl rfl (Nat.le_refl 0) (Nat.le_refl 0) (dk kX5_wholeValue 21 rfl)
                      · replace h := ite_f h c40
                        by_cases c41 : a1 = 9
                        · replace h := ite_t h c41
                          refine g_tin C (tgt := 113) (dk kX5_wholeValue 14 rfl) (by rw [c41]; decide) (by rw [c41]; decide) (by rw [c41]; rfl) (by decide) ?_
                          refine g_aload_n C (i := 0) 0 rfl rfl (dk kX5_wholeValue 22 rfl) ?_
                          refine gI_4_6 C k0 (C.w wd_1_180) (dk kX5_wholeValue 23 rfl) ?_
                          cases h
                          exact g_iret C E rfl rfl (Nat.le_refl 0) (Nat.le_refl 0) (dk kX5_wholeValue 24 rfl)
                        · replace h := ite_f h c41
                          by_cases c42 : a1 = 10
                          · replace h := ite_t h c42
                            refine g_tin C (tgt := 118) (dk kX5_wholeValue 14 rfl) (by rw [c42]; decide) (by rw [c42]; decide) (by rw [c42]; rfl) (by decide) ?_
                            refine g_aload_n C (i := 0) 0 rfl rfl (dk kX5_wholeValue 25 rfl) ?_
                            obtain ⟨x44, eq43, h⟩ := bd_inv h
                            refine g_callV C E.2 (rest := []) 0 (ct_X5_allWear k0 eq43) wd_3_20 mm_X5_allWear ⟨rfl, by decide, by decide, by decide⟩ rfl (by decide) k0 (by decide) rfl rfl (Nat.le_of_ble_eq_true rfl) (by decide) (dk kX5_wholeValue 26 rfl) ?_
                            cases h
                            exact g_iret C E rfl rfl (Nat.le_refl 0) (Nat.le_refl 0) (dk kX5_wholeValue 27 rfl)
                          · replace h := ite_f h c42
                            by_cases c45 : a1 = 11
                            · replace h := ite_t h c45
                              refine g_tin C (tgt := 123) (dk kX5_wholeValue 14 rfl) (by rw [c45]; decide) (by rw [c45]; decide) (by rw [c45]; rfl) (by decide) ?_
                              refine g_aload_n C (i := 0) 0 rfl rfl (dk kX5_wholeValue 28 rfl) ?_
                              obtain ⟨b46, eb46, h⟩ := bd_inv h
                              obtain ⟨rb46, kb46⟩ := rf_inv eb46
                              refine gR_4_0 C k0 (C.w wd_1_170) rb46 (dk kX5_wholeValue 29 rfl) ?_
                              refine gIN_2_1 C kb46 (nf_5 C) (dk kX5_wholeValue 30 rfl) ?_
                              cases h
                              exact g_iret C E rfl rfl (Nat.le_refl 0) (Nat.le_refl 0) (dk kX5_wholeValue 31 rfl)
                            · replace h := ite_f h c45
                              by_cases c47 : a1 = 12
                              · replace h := ite_t h c47
                                refine g_tin C (tgt := 131) (dk kX5_wholeValue 14 rfl) (by rw [c47]; decide) (by rw [c47]; decide) (by rw [c47]; rfl) (by decide) ?_
                                refine g_aload_n C (i := 0) 0 rfl rfl (dk kX5_wholeValue 32 rfl) ?_
                                obtain ⟨x49, eq48, h⟩ := bd_inv h
                                refine g_callV C E.2 (rest := []) 0 (ct_X5_allPrinted k0 eq48) wd_3_210 mm_X5_allPrinted ⟨rfl, by decide, by decide, by decide⟩ rfl (by decide) k0 (by decide) rfl rfl (Nat.le_of_ble_eq_true rfl) (by decide) (dk kX5_wholeValue 33 rfl) ?_
                                cases h
                                exact g_iret C E rfl rfl (Nat.le_refl 0) (Nat.le_refl 0) (dk kX5_wholeValue 34 rfl)
                              · replace h := ite_f h c47
                                by_cases c50 : a1 = 13
                                · replace h := ite_t h c50
                                  refine g_tin C (tgt := 136) (dk kX5_wholeValue 14 rfl) (by rw [c50]; decide) (by rw [c50]; decide) (by rw [c50]; rfl) (by decide) ?_
                                  refine g_aload_n C (i := 0) 0 rfl rfl (dk kX5_wholeValue 35 rfl) ?_
                                  obtain ⟨x52, eq51, h⟩ := bd_inv h
                                  refine g_callV C E.2 (rest := []) 0 (ct_X5_allFailed k0 eq51) wd_3_214 mm_X5_allFailed ⟨rfl, by decide, by decide, by decide⟩ rfl (by decide) k0 (by decide) rfl rfl (Nat.le_of_ble_eq_true rfl) (by decide) (dk kX5_wholeValue 36 rfl) ?_
                                  cases h
                                  exact g_iret C E rfl rfl (Nat.le_refl 0) (Nat.le_refl 0) (dk kX5_wholeValue 37 rfl)
                                · replace h := ite_f h c50
                                  by_cases c53 : a1 = 14
                                  · replace h := ite_t h c53
                                    refine g_tin C (tgt := 141) (dk kX5_wholeValue 14 rfl) (by rw [c53]; decide) (by rw [c53]; decide) (by rw [c53]; rfl) (by decide) ?_
                                    refine g_aload_n C (i := 0) 0 rfl rfl (dk kX5_wholeValue 38 rfl) ?_
                                    obtain ⟨x55, eq54, h⟩ := bd_inv h
                                    refine g_callV C E.2 (rest := []) 0 (ct_X5_allEarned k0 eq54) wd_3_218 mm_X5_allEarned ⟨rfl, by decide, by decide, by decide⟩ rfl (by decide) k0 (by decide) rfl rfl (Nat.le_of_ble_eq_true rfl) (by decide) (dk kX5_wholeValue 39 rfl) ?_
                                    cases h
                                    exact g_iret C E rfl rfl (Nat.le_refl 0) (Nat.le_refl 0) (dk kX5_wholeValue 40 rfl)
                                  · replace h := ite_f h c53
                                    by_cases c56 : a1 = 15
                                    · replace h := ite_t h c56
                                      refine g_tin C (tgt := 146) (dk kX5_wholeValue 14 rfl) (by rw [c56]; decide) (by rw [c56]; decide) (by rw [c56]; rfl) (by decide) ?_
                                      refine g_aload_n C (i := 0) 0 rfl rfl (dk kX5_wholeValue 41 rfl) ?_
                                      obtain ⟨x58, eq57, h⟩ := bd_inv h
                                      refine g_callV C E.2 (rest := []) 0 (ct_X5_allRented k0 eq57) wd_3_52 mm_X5_allRented ⟨rfl, by decide, by decide, by decide⟩ rfl (by decide) k0 (by decide) rfl rfl (Nat.le_of_ble_eq_true rfl) (by decide) (dk kX5_wholeValue 42 rfl) ?_
                                      cases h
                                      exact g_iret C E rfl rfl (Nat.le_refl 0) (Nat.le_refl 0) (dk kX5_wholeValue 43 rfl)
                                    · replace h := ite_f h c56
                                      refine g_tout C (tgt := 151) (dk kX5_wholeValue 14 rfl) (by have q0 := lv_neT c31 (a := 0) (by decide); have q1 := lv_neT c33 (a := 1) (by decide); have q2 := lv_neT c34 (a := 2) (by decide); have q3 := lv_neT c35 (a := 3) (by decide); have q4 := lv_neT c36 (a := 4) (by decide); have q5 := lv_neT c37 (a := 5) (by decide); have q6 := lv_neT c38 (a := 6) (by decide); have q7 := lv_neT c39 (a := 7) (by decide); have q8 := lv_neT c40 (a := 8) (by decide); have q9 := lv_neT c41 (a := 9) (by decide); have q10 := lv_neT c42 (a := 10) (by decide); have q11 := lv_neT c45 (a := 11) (by decide); have q12 := lv_neT c47 (a := 12) (by decide); have q13 := lv_neT c50 (a := 13) (by decide); have q14 := lv_neT c53 (a := 14) (by decide); have q15 := lv_neT c56 (a := 15) (by decide); omega) (by decide) ?_
                                      refine g_aload_n C (i := 0) 0 rfl rfl (dk kX5_wholeValue 44 rfl) ?_
                                      refine gI_4_7 C k0 (C.w wd_1_182) (dk kX5_wholeValue 45 rfl) ?_
                                      cases h
                                      exact g_iret C E rfl rfl (Nat.le_refl 0) (Nat.le_refl 0) (dk kX5_wholeValue 46 rfl)
    · replace h := ite_f h c30
      refine g_aload_n C (i := 0) 0 rfl rfl (dk kX5_wholeValue 6 rfl) ?_
      obtain ⟨b59, eb59, h⟩ := bd_inv h
      obtain ⟨rb59, kb59⟩ := rf_inv eb59
      refine gR_4_2 C k0 (C.w wd_1_173) rb59 (dk kX5_wholeValue 7 rfl) ?_
      refine g_iload_n C (i := 1) 1 rfl rfl (dk kX5_wholeValue 8 rfl) ?_
      refine g_iconst C (v := 1) (by decide) (dk kX5_wholeValue 9 rfl) ?_
      refine g_isub C (dk kX5_wholeValue 10 rfl) ?_
      obtain ⟨c60, h⟩ := gd_inv h
      refine g_iald C kb59 c60 (dk kX5_wholeValue 11 rfl) ?_
      cases h
      exact g_iret C E rfl rfl (Nat.le_refl 0) (Nat.le_refl 0) (dk kX5_wholeValue 12 rfl)
theorem ct_X5_wholeValue {l : Launch} {Z : ZZ} {μ : Mm} {a0 : Nat} {a1 : Int32} {r : Int32} (k0 : (zk Z a0).1 = 4) (h : f_X5_wholeValue (zk Z) μ a0 a1 = some r) : CtM l Z false yX5_wholeValue cX5_wholeValue 2 (some .int) 2 0 0 [.ref (za Z a0), .int a1] μ (some (.int r)) Z μ := ct_of rfl rfl (Nat.le_of_ble_eq_true rfl) (fun X C E => t_X5_wholeValue μ a0 a1 r k0 h C E)

def qX5_whyNotAskAbout : List (Nat × Instr × Nat) := [(0, .aload_n 0, 1), (1, .iload_n 1, 1), (2, .invokevirtual 119, 3), (5, .ifCond .eq 11, 3), (8, .aload_n 0, 1), (9, .iload_n 2, 1), (10, .invokevirtual 94, 3), (13, .ifCond .ne 5, 3), (16, .iconst 1, 1), (17, .ireturn, 1), (18, .iload_n 3, 1), (19, .ifCond .lt 9, 3), (22, .iload_n 3, 1), (23, .bipush 23, 2), (25, .if_icmp .le 7, 3), (28, .iconst 2, 1), (29, .goto 4, 3), (32, .iconst 0, 1), (33, .ireturn, 1)]
theorem kX5_whyNotAskAbout : ∀ q ∈ qX5_whyNotAskAbout, decode cX5_whyNotAskAbout q.1 = .ok q.2 := by decide +kernel
def f_X5_whyNotAskAbout (K : Nat → Nat × Nat) (μ : Mm) (a0 : Nat) (a1 : Int32) (a2 : Int32) (a3 : Int32) : Option (Int32) :=
  bd (f_X5_hasCustomer K μ a0 a1) fun x2 => if x2 = 0 then (some 1) else (bd (f_X5_hasLabel K μ a0 a2) fun x5 => if x5 = 0 then (some 1) else (lt1 (α := Int32) (if a3 < 0 then 2 else (if a3 ≤ 23 then 0 else 2)) fun x7 => some x7))
set_option maxRecDepth 100000 in
set_option maxHeartbeats 4000000 in
theorem t_X5_whyNotAskAbout {l : Launch} {Z : ZZ} {X : XX} (μ : Mm) (a0 : Nat) (a1 : Int32) (a2 : Int32) (a3 : Int32) (r : Int32) (k0 : (zk Z a0).1 = 4) (h : f_X5_whyNotAskAbout (zk Z) μ a0 a1 a2 a3 = some r) (C : Cx l Z false X cX5_whyNotAskAbout RX5 4 (some .int)) (E : Ex Z X 1 0 0 (some (.int r)) Z μ) : G Z X 4 0 0 0 [(0, .ref (za Z a0)), (1, .int a1), (2, .int a2), (3, .int a3)] [] μ := by
  unfold f_X5_whyNotAskAbout at h
  refine g_aload_n C (i := 0) 0 rfl rfl (dk kX5_whyNotAskAbout 0 rfl) ?_
  refine g_iload_n C (i := 1) 1 rfl rfl (dk kX5_whyNotAskAbout 1 rfl) ?_
  obtain ⟨x2, eq1, h⟩ := bd_inv h
  refine g_callV C E.2 (rest := []) 1 (ct_X5_hasCustomer k0 eq1) wd_2_147 mm_X5_hasCustomer ⟨rfl, by decide, by decide, by decide⟩ rfl (by decide) k0 (by decide) rfl rfl (Nat.le_of_ble_eq_true rfl) (by decide) (dk kX5_whyNotAskAbout 2 rfl) ?_
  refine g_if_eq C (tgt := 16) (dk kX5_whyNotAskAbout 3 rfl) (by decide) (fun c3 => ?_) (fun c3 => ?_)
  · replace h := ite_t h c3
    refine g_iconst C (v := 1) (by decide) (dk kX5_whyNotAskAbout 8 rfl) ?_
    cases h
    exact g_iret C E rfl rfl (Nat.le_refl 0) (Nat.le_refl 0) (dk kX5_whyNotAskAbout 9 rfl)
  · replace h := ite_f h c3
    refine g_aload_n C (i := 0) 0 rfl rfl (dk kX5_whyNotAskAbout 4 rfl) ?_
    refine g_iload_n C (i := 2) 2 rfl rfl (dk kX5_whyNotAskAbout 5 rfl) ?_
    obtain ⟨x5, eq4, h⟩ := bd_inv h
    refine g_callV C E.2 (rest := []) 1 (ct_X5_hasLabel k0 eq4) wd_2_131 mm_X5_hasLabel ⟨rfl, by decide, by decide, by decide⟩ rfl (by decide) k0 (by decide) rfl rfl (Nat.le_of_ble_eq_true rfl) (by decide) (dk kX5_whyNotAskAbout 6 rfl) ?_
    refine g_if_ne C (tgt := 18) (dk kX5_whyNotAskAbout 7 rfl) (by decide) (fun c6 => ?_) (fun c6 => ?_)
    · replace h := ite_f h c6
      refine g_iload_n C (i := 3) 3 rfl rfl (dk kX5_whyNotAskAbout 10 rfl) ?_
      obtain ⟨x7, ex7, h⟩ := lt_inv h
      have kj8 : G Z X 4 0 0 33 [(0, .ref (za Z a0)), (1, .int a1), (2, .int a2), (3, .int a3)] [.int x7] μ := by
        cases h
        exact g_iret C E rfl rfl (Nat.le_refl 0) (Nat.le_refl 0) (dk kX5_whyNotAskAbout 18 rfl)
      clear h
      refine g_if_lt C (tgt := 28) (dk kX5_whyNotAskAbout 11 rfl) (by decide) (fun c9 => ?_) (fun c9 => ?_)
      · refine g_iconst C (v := 2) (by decide) (dk kX5_whyNotAskAbout 15 rfl) ?_
        refine g_goto C (tgt := 33) (dk kX5_whyNotAskAbout 16 rfl) (by decide) ?_
        exact g_nmi (by rw [ex7, if_pos c9]) kj8
      · refine g_iload_n C (i := 3) 3 rfl rfl (dk kX5_whyNotAskAbout 12 rfl) ?_
        refine g_bipush C (v := 23) (by decide) (dk kX5_whyNotAskAbout 13 rfl) ?_
        refine g_icmp_le C (tgt := 32) (dk kX5_whyNotAskAbout 14 rfl) (by decide) (fun c10 => ?_) (fun c10 => ?_)
        · refine g_iconst C (v := 0) (by decide) (dk kX5_whyNotAskAbout 17 rfl) ?_
          exact g_nmi (by rw [ex7, if_neg c9, if_pos c10]) kj8
        · refine g_iconst C (v := 2) (by decide) (dk kX5_whyNotAskAbout 15 rfl) ?_
          refine g_goto C (tgt := 33) (dk kX5_whyNotAskAbout 16 rfl) (by decide) ?_
          exact g_nmi (by rw [ex7, if_neg c9, if_neg c10]) kj8
    · replace h := ite_t h c6
      refine g_iconst C (v := 1) (by decide) (dk kX5_whyNotAskAbout 8 rfl) ?_
      cases h
      exact g_iret C E rfl rfl (Nat.le_refl 0) (Nat.le_refl 0) (dk kX5_whyNotAskAbout 9 rfl)
theorem ct_X5_whyNotAskAbout {l : Launch} {Z : ZZ} {μ : Mm} {a0 : Nat} {a1 : Int32} {a2 : Int32} {a3 : Int32} {r : Int32} (k0 : (zk Z a0).1 = 4) (h : f_X5_whyNotAskAbout (zk Z) μ a0 a1 a2 a3 = some r) : CtM l Z false yX5_whyNotAskAbout cX5_whyNotAskAbout 4 (some .int) 1 0 0 [.ref (za Z a0), .int a1, .int a2, .int a3] μ (some (.int r)) Z μ := ct_of rfl rfl (Nat.le_of_ble_eq_true rfl) (fun X C E => t_X5_whyNotAskAbout μ a0 a1 a2 a3 r k0 h C E)

def qX5_whyNotNewHead : List (Nat × Instr × Nat) := [(0, .iload_n 1, 1), (1, .iconst 4, 1), (2, .if_icmp .lt 9, 3), (5, .iload_n 1, 1), (6, .bipush 24, 2), (8, .if_icmp .le 7, 3), (11, .iconst 2, 1), (12, .goto 4, 3), (15, .iconst 0, 1), (16, .ireturn, 1)]
theorem kX5_whyNotNewHead : ∀ q ∈ qX5_whyNotNewHead, decode cX5_whyNotNewHead q.1 = .ok q.2 := by decide +kernel
def f_X5_whyNotNewHead (a0 : Nat) (a1 : Int32) : Option (Int32) :=
  lt1 (α := Int32) (if a1 < 4 then 2 else (if a1 ≤ 24 then 0 else 2)) fun x1 => some x1
set_option maxRecDepth 100000 in
set_option maxHeartbeats 4000000 in
theorem t_X5_whyNotNewHead {l : Launch} {Z : ZZ} {X : XX} (μ : Mm) (a0 : Nat) (a1 : Int32) (r : Int32) (k0 : (zk Z a0).1 = 4) (h : f_X5_whyNotNewHead a0 a1 = some r) (C : Cx l Z false X cX5_whyNotNewHead RX5 2 (some .int)) (E : Ex Z X 0 0 0 (some (.int r)) Z μ) : G Z X 2 0 0 0 [(0, .ref (za Z a0)), (1, .int a1)] [] μ := by
  unfold f_X5_whyNotNewHead at h
  refine g_iload_n C (i := 1) 1 rfl rfl (dk kX5_whyNotNewHead 0 rfl) ?_
  refine g_iconst C (v := 4) (by decide) (dk kX5_whyNotNewHead 1 rfl) ?_
  obtain ⟨x1, ex1, h⟩ := lt_inv h
  have kj2 : G Z X 2 0 0 16 [(0, .ref (za Z a0)), (1, .int a1)] [.int x1] μ := by
    cases h
    exact g_iret C E rfl rfl (Nat.le_refl 0) (Nat.le_refl 0) (dk kX5_whyNotNewHead 9 rfl)
  clear h
  refine g_icmp_lt C (tgt := 11) (dk kX5_whyNotNewHead 2 rfl) (by decide) (fun c3 => ?_) (fun c3 => ?_)
  · refine g_iconst C (v := 2) (by decide) (dk kX5_whyNotNewHead 6 rfl) ?_
    refine g_goto C (tgt := 16) (dk kX5_whyNotNewHead 7 rfl) (by decide) ?_
    exact g_nmi (by rw [ex1, if_pos c3]) kj2
  · refine g_iload_n C (i := 1) 1 rfl rfl (dk kX5_whyNotNewHead 3 rfl) ?_
    refine g_bipush C (v := 24) (by decide) (dk kX5_whyNotNewHead 4 rfl) ?_
    refine g_icmp_le C (tgt := 15) (dk kX5_whyNotNewHead 5 rfl) (by decide) (fun c4 => ?_) (fun c4 => ?_)
    · refine g_iconst C (v := 0) (by decide) (dk kX5_whyNotNewHead 8 rfl) ?_
      exact g_nmi (by rw [ex1, if_neg c3, if_pos c4]) kj2
    · refine g_iconst C (v := 2) (by decide) (dk kX5_whyNotNewHead 6 rfl) ?_
      refine g_goto C (tgt := 16) (dk kX5_whyNotNewHead 7 rfl) (by decide) ?_
      exact g_nmi (by rw [ex1, if_neg c3, if_neg c4]) kj2
theorem ct_X5_whyNotNewHead {l : Launch} {Z : ZZ} {μ : Mm} {a0 : Nat} {a1 : Int32} {r : Int32} (k0 : (zk Z a0).1 = 4) (h : f_X5_whyNotNewHead a0 a1 = some r) : CtM l Z false yX5_whyNotNewHead cX5_whyNotNewHead 2 (some .int) 0 0 0 [.ref (za Z a0), .int a1] μ (some (.int r)) Z μ := ct_of rfl rfl (Nat.le_of_ble_eq_true rfl) (fun X C E => t_X5_whyNotNewHead μ a0 a1 r k0 h C E)

def qX5_whyNotNewLabel : List (Nat × Instr × Nat) := [(0, .iload_n 1, 1), (1, .iconst 1, 1), (2, .if_icmp .lt 20, 3), (5, .iload_n 1, 1), (6, .bipush 12, 2), (8, .if_icmp .gt 14, 3), (11, .iload_n 2, 1), (12, .iconst 1, 1), (13, .if_icmp .lt 9, 3), (16, .iload_n 2, 1), (17, .bipush 9, 2), (19, .if_icmp .le 5, 3), (22, .iconst 2, 1), (23, .ireturn, 1), (24, .aload_n 0, 1), (25, .getfield 55, 3), (28, .bipush 6, 2), (30, .if_icmp .lt 7, 3), (33, .iconst 3, 1), (34, .goto 4, 3), (37, .iconst 0, 1), (38, .ireturn, 1)]
theorem kX5_whyNotNewLabel : ∀ q ∈ qX5_whyNotNewLabel, decode cX5_whyNotNewLabel q.1 = .ok q.2 := by decide +kernel
def f_X5_whyNotNewLabel (K : Nat → Nat × Nat) (μ : Mm) (a0 : Nat) (a1 : Int32) (a2 : Int32) : Option (Int32) :=
  if a1 < 1 then (some 2) else (if 12 < a1 then (some 2) else (if a2 < 1 then (some 2) else (if a2 ≤ 9 then (lt1 (α := Int32) (if (μ.1 a0 4) < 6 then 0 else 3) fun x5 => some x5) else (some 2))))
set_option maxRecDepth 100000 in
set_option maxHeartbeats 4000000 in
theorem t_X5_whyNotNewLabel {l : Launch} {Z : ZZ} {X : XX} (μ : Mm) (a0 : Nat) (a1 : Int32) (a2 : Int32) (r : Int32) (k0 : (zk Z a0).1 = 4) (h : f_X5_whyNotNewLabel (zk Z) μ a0 a1 a2 = some r) (C : Cx l Z false X cX5_whyNotNewLabel RX5 3 (some .int)) (E : Ex Z X 0 0 0 (some (.int r)) Z μ) : G Z X 3 0 0 0 [(0, .ref (za Z a0)), (1, .int a1), (2, .int a2)] [] μ := by
  unfold f_X5_whyNotNewLabel at h
  refine g_iload_n C (i := 1) 1 rfl rfl (dk kX5_whyNotNewLabel 0 rfl) ?_
  refine g_iconst C (v := 1) (by decide) (dk kX5_whyNotNewLabel 1 rfl) ?_
  refine g_icmp_lt C (tgt := 22) (dk kX5_whyNotNewLabel 2 rfl) (by decide) (fun c1 => ?_) (fun c1 => ?_)
  · replace h := ite_t h c1
    refine g_iconst C (v := 2) (by decide) (dk kX5_whyNotNewLabel 12 rfl) ?_
    cases h
    exact g_iret C E rfl rfl (Nat.le_refl 0) (Nat.le_refl 0) (dk kX5_whyNotNewLabel 13 rfl)
  · replace h := ite_f h c1
    refine g_iload_n C (i := 1) 1 rfl rfl (dk kX5_whyNotNewLabel 3 rfl) ?_
    refine g_bipush C (v := 12) (by decide) (dk kX5_whyNotNewLabel 4 rfl) ?_
    refine g_icmp_gt C (tgt := 22) (dk kX5_whyNotNewLabel 5 rfl) (by decide) (fun c2 => ?_) (fun c2 => ?_)
    · replace h := ite_t h c2
      refine g_iconst C (v := 2) (by decide) (dk kX5_whyNotNewLabel 12 rfl) ?_
      cases h
      exact g_iret C E rfl rfl (Nat.le_refl 0) (Nat.le_refl 0) (dk kX5_whyNotNewLabel 13 rfl)
    · replace h := ite_f h c2
      refine g_iload_n C (i := 2) 2 rfl rfl (dk kX5_whyNotNewLabel 6 rfl) ?_
      refine g_iconst C (v := 1) (by decide) (dk kX5_whyNotNewLabel 7 rfl) ?_
      refine g_icmp_lt C (tgt := 22) (dk kX5_whyNotNewLabel 8 rfl) (by decide) (fun c3 => ?_) (fun c3 => ?_)
      · replace h := ite_t h c3
        refine g_iconst C (v := 2) (by decide) (dk kX5_whyNotNewLabel 12 rfl) ?_
        cases h
        exact g_iret C E rfl rfl (Nat.le_refl 0) (Nat.le_refl 0) (dk kX5_whyNotNewLabel 13 rfl)
      · replace h := ite_f h c3
        refine g_iload_n C (i := 2) 2 rfl rfl (dk kX5_whyNotNewLabel 9 rfl) ?_
        refine g_bipush C (v := 9) (by decide) (dk kX5_whyNotNewLabel 10 rfl) ?_
        refine g_icmp_le C (tgt := 24) (dk kX5_whyNotNewLabel 11 rfl) (by decide) (fun c4 => ?_) (fun c4 => ?_)
        · replace h := ite_t h c4
          refine g_aload_n C (i := 0) 0 rfl rfl (dk kX5_whyNotNewLabel 14 rfl) ?_
          refine gI_4_4 C k0 (C.w wd_1_176) (dk kX5_whyNotNewLabel 15 rfl) ?_
          refine g_bipush C (v := 6) (by decide) (dk kX5_whyNotNewLabel 16 rfl) ?_
          obtain ⟨x5, ex5, h⟩ := lt_inv h
          have kj6 : G Z X 3 0 0 38 [(0, .ref (za Z a0)), (1, .int a1), (2, .int a2)] [.int x5] μ := by
            cases h
            exact g_iret C E rfl rfl (Nat.le_refl 0) (Nat.le_refl 0) (dk kX5_whyNotNewLabel 21 rfl)
          clear h
          refine g_icmp_lt C (tgt := 37) (dk kX5_whyNotNewLabel 17 rfl) (by decide) (fun c7 => ?_) (fun c7 => ?_)
          · refine g_iconst C (v := 0) (by decide) (dk kX5_whyNotNewLabel 20 rfl) ?_
            exact g_nmi (by rw [ex5, if_pos c7]) kj6
          · refine g_iconst C (v := 3) (by decide) (dk kX5_whyNotNewLabel 18 rfl) ?_
            refine g_goto C (tgt := 38) (dk kX5_whyNotNewLabel 19 rfl) (by decide) ?_
            exact g_nmi (by rw [ex5, if_neg c7]) kj6
        · replace h := ite_f h c4
          refine g_iconst C (v := 2) (by decide) (dk kX5_whyNotNewLabel 12 rfl) ?_
          cases h
          exact g_iret C E rfl rfl (Nat.le_refl 0) (Nat.le_refl 0) (dk kX5_whyNotNewLabel 13 rfl)
theorem ct_X5_whyNotNewLabel {l : Launch} {Z : ZZ} {μ : Mm} {a0 : Nat} {a1 : Int32} {a2 : Int32} {r : Int32} (k0 : (zk Z a0).1 = 4) (h : f_X5_whyNotNewLabel (zk Z) μ a0 a1 a2 = some r) : CtM l Z false yX5_whyNotNewLabel cX5_whyNotNewLabel 3 (some .int) 0 0 0 [.ref (za Z a0), .int a1, .int a2] μ (some (.int r)) Z μ := ct_of rfl rfl (Nat.le_of_ble_eq_true rfl) (fun X C E => t_X5_whyNotNewLabel μ a0 a1 a2 r k0 h C E)

def qX5_whyNotChangeRow : List (Nat × Instr × Nat) := [(0, .aload_n 0, 1), (1, .iload_n 1, 1), (2, .invokevirtual 94, 3), (5, .ifCond .ne 5, 3), (8, .iconst 1, 1), (9, .ireturn, 1), (10, .iload_n 2, 1), (11, .ifCond .lt 30, 3), (14, .iload_n 2, 1), (15, .bipush 6, 2), (17, .if_icmp .ge 24, 3), (20, .iload_n 3, 1), (21, .ifCond .lt 20, 3), (24, .iload_n 3, 1), (25, .aload_n 0, 1), (26, .getfield 24, 3), (29, .iload_n 1, 1), (30, .aaload, 1), (31, .invokevirtual 98, 3), (34, .if_icmp .gt 7, 3), (37, .iconst 1, 1), (38, .goto 4, 3), (41, .iconst 0, 1), (42, .istore 4, 2), (44, .iload 4, 2), (46, .ifCond .eq 7, 3), (49, .iconst 0, 1), (50, .goto 4, 3), (53, .iconst 2, 1), (54, .ireturn, 1)]
theorem kX5_whyNotChangeRow : ∀ q ∈ qX5_whyNotChangeRow, decode cX5_whyNotChangeRow q.1 = .ok q.2 := by decide +kernel
def f_X5_whyNotChangeRow (K : Nat → Nat × Nat) (μ : Mm) (a0 : Nat) (a1 : Int32) (a2 : Int32) (a3 : Int32) : Option (Int32) :=
  bd (f_X5_hasLabel K μ a0 a1) fun x2 => if x2 = 0 then (some 1) else (if a2 < 0 then (some 2) else (if 6 ≤ a2 then (some 2) else (if a3 < 0 then (some 2) else (bd (rf K μ a0 3 10) fun b10 => gd (inb a1 (K b10).2) <| bd (rf K μ b10 (ix a1) 3) fun b12 => bd (f_X4_allColumns K μ b12) fun x14 => lt1 (α := Int32) (if x14 < a3 then 0 else 1) fun x15 => lt1 (α := Int32) (if x15 = 0 then 2 else 0) fun x17 => some x17))))
set_option maxRecDepth 100000 in
set_option maxHeartbeats 4000000 in
theorem t_X5_whyNotChangeRow {l : Launch} {Z : ZZ} {X : XX} (μ : Mm) (a0 : Nat) (a1 : Int32) (a2 : Int32) (a3 : Int32) (r : Int32) (k0 : (zk Z a0).1 = 4) (h : f_X5_whyNotChangeRow (zk Z) μ a0 a1 a2 a3 = some r) (C : Cx l Z false X cX5_whyNotChangeRow RX5 5 (some .int)) (E : Ex Z X 1 0 0 (some (.int r)) Z μ) : G Z X 5 0 0 0 [(0, .ref (za Z a0)), (1, .int a1), (2, .int a2), (3, .int a3)] [] μ := by
  unfold f_X5_whyNotChangeRow at h
  refine g_aload_n C (i := 0) 0 rfl rfl (dk kX5_whyNotChangeRow 0 rfl) ?_
  refine g_iload_n C (i := 1) 1 rfl rfl (dk kX5_whyNotChangeRow 1 rfl) ?_
  obtain ⟨x2, eq1, h⟩ := bd_inv h
  refine g_callV C E.2 (rest := []) 1 (ct_X5_hasLabel k0 eq1) wd_2_131 mm_X5_hasLabel ⟨rfl, by decide, by decide, by decide⟩ rfl (by decide) k0 (by decide) rfl rfl (Nat.le_of_ble_eq_true rfl) (by decide) (dk kX5_whyNotChangeRow 2 rfl) ?_
  refine g_if_ne C (tgt := 10) (dk kX5_whyNotChangeRow 3 rfl) (by decide) (fun c3 => ?_) (fun c3 => ?_)
  · replace h := ite_f h c3
    refine g_iload_n C (i := 2) 2 rfl rfl (dk kX5_whyNotChangeRow 6 rfl) ?_
    refine g_if_lt C (tgt := 41) (dk kX5_whyNotChangeRow 7 rfl) (by decide) (fun c4 => ?_) (fun c4 => ?_)
    · replace h := ite_t h c4
      refine g_iconst C (v := 0) (by decide) (dk kX5_whyNotChangeRow 22 rfl) ?_
      refine g_istore C (i := 4) (lv' := [(4, .int 0), (0, .ref (za Z a0)), (1, .int a1), (2, .int a2), (3, .int a3)]) (dk kX5_whyNotChangeRow 23 rfl) (by decide) rfl ?_
      refine g_iload C (i := 4) 0 rfl (dk kX5_whyNotChangeRow 24 rfl) ?_
      refine g_if_eq C (tgt := 53) (dk kX5_whyNotChangeRow 25 rfl) (by decide) (fun c5 => ?_) (fun c => absurd c (by decide))
      refine g_iconst C (v := 2) (by decide) (dk kX5_whyNotChangeRow 28 rfl) ?_
      cases h
      exact g_iret C E rfl rfl (Nat.le_refl 0) (Nat.le_refl 0) (dk kX5_whyNotChangeRow 29 rfl)
    · replace h := ite_f h c4
      refine g_iload_n C (i := 2) 2 rfl rfl (dk kX5_whyNotChangeRow 8 rfl) ?_
      refine g_bipush C (v := 6) (by decide) (dk kX5_whyNotChangeRow 9 rfl) ?_
      refine g_icmp_ge C (tgt := 41) (dk kX5_whyNotChangeRow 10 rfl) (by decide) (fun c6 => ?_) (fun c6 => ?_)
      · replace h := ite_t h c6
        refine g_iconst C (v := 0) (by decide) (dk kX5_whyNotChangeRow 22 rfl) ?_
        refine g_istore C (i := 4) (lv' := [(4, .int 0), (0, .ref (za Z a0)), (1, .int a1), (2, .int a2), (3, .int a3)]) (dk kX5_whyNotChangeRow 23 rfl) (by decide) rfl ?_
        refine g_iload C (i := 4) 0 rfl (dk kX5_whyNotChangeRow 24 rfl) ?_
        refine g_if_eq C (tgt := 53) (dk kX5_whyNotChangeRow 25 rfl) (by decide) (fun c7 => ?_) (fun c => absurd c (by decide))
        refine g_iconst C (v := 2) (by decide) (dk kX5_whyNotChangeRow 28 rfl) ?_
        cases h
        exact g_iret C E rfl rfl (Nat.le_refl 0) (Nat.le_refl 0) (dk kX5_whyNotChangeRow 29 rfl)
      · replace h := ite_f h c6
        refine g_iload_n C (i := 3) 3 rfl rfl (dk kX5_whyNotChangeRow 11 rfl) ?_
        refine g_if_lt C (tgt := 41) (dk kX5_whyNotChangeRow 12 rfl) (by decide) (fun c8 => ?_) (fun c8 => ?_)
        · replace h := ite_t h c8
          refine g_iconst C (v := 0) (by decide) (dk kX5_whyNotChangeRow 22 rfl) ?_
          refine g_istore C (i := 4) (lv' := [(4, .int 0), (0, .ref (za Z a0)), (1, .int a1), (2, .int a2), (3, .int a3)]) (dk kX5_whyNotChangeRow 23 rfl) (by decide) rfl ?_
          refine g_iload C (i := 4) 0 rfl (dk kX5_whyNotChangeRow 24 rfl) ?_
          refine g_if_eq C (tgt := 53) (dk kX5_whyNotChangeRow 25 rfl) (by decide) (fun c9 => ?_) (fun c => absurd c (by decide))
          refine g_iconst C (v := 2) (by decide) (dk kX5_whyNotChangeRow 28 rfl) ?_
          cases h
          exact g_iret C E rfl rfl (Nat.le_refl 0) (Nat.le_refl 0) (dk kX5_whyNotChangeRow 29 rfl)
        · replace h := ite_f h c8
          refine g_iload_n C (i := 3) 3 rfl rfl (dk kX5_whyNotChangeRow 13 rfl) ?_
          refine g_aload_n C (i := 0) 0 rfl rfl (dk kX5_whyNotChangeRow 14 rfl) ?_
          obtain ⟨b10, eb10, h⟩ := bd_inv h
          obtain ⟨rb10, kb10⟩ := rf_inv eb10
          refine gR_4_3 C k0 (C.w wd_1_174) rb10 (dk kX5_whyNotChangeRow 15 rfl) ?_
          refine g_iload_n C (i := 1) 1 rfl rfl (dk kX5_whyNotChangeRow 16 rfl) ?_
          obtain ⟨c11, h⟩ := gd_inv h
          obtain ⟨b12, eb12, h⟩ := bd_inv h
          obtain ⟨rb12, kb12⟩ := rf_inv eb12
          refine gA_10 C kb10 c11 rb12 (dk kX5_whyNotChangeRow 17 rfl) ?_
          obtain ⟨x14, eq13, h⟩ := bd_inv h
          refine g_callV C E.2 (rest := [.int a3]) 0 (ct_X4_allColumns kb12 eq13) wd_2_135 mm_X4_allColumns ⟨rfl, by decide, by decide, by decide⟩ rfl (by decide) kb12 (by decide) rfl rfl (Nat.le_of_ble_eq_true rfl) (by decide) (dk kX5_whyNotChangeRow 18 rfl) ?_
          obtain ⟨x15, ex15, h⟩ := lt_inv h
          have kj16 : G Z X 5 0 0 42 [(0, .ref (za Z a0)), (1, .int a1), (2, .int a2), (3, .int a3)] [.int x15] μ := by
            refine g_istore C (i := 4) (lv' := [(4, .int x15), (0, .ref (za Z a0)), (1, .int a1), (2, .int a2), (3, .int a3)]) (dk kX5_whyNotChangeRow 23 rfl) (by decide) rfl ?_
            refine g_iload C (i := 4) 0 rfl (dk kX5_whyNotChangeRow 24 rfl) ?_
            obtain ⟨x17, ex17, h⟩ := lt_inv h
            have kj18 : G Z X 5 0 0 54 [(4, .int x15), (0, .ref (za Z a0)), (1, .int a1), (2, .int a2), (3, .int a3)] [.int x17] μ := by
              cases h
              exact g_iret C E rfl rfl (Nat.le_refl 0) (Nat.le_refl 0) (dk kX5_whyNotChangeRow 29 rfl)
            clear h
            refine g_if_eq C (tgt := 53) (dk kX5_whyNotChangeRow 25 rfl) (by decide) (fun c19 => ?_) (fun c19 => ?_)
            · refine g_iconst C (v := 2) (by decide) (dk kX5_whyNotChangeRow 28 rfl) ?_
              exact g_nmi (by rw [ex17, if_pos c19]) kj18
            · refine g_iconst C (v := 0) (by decide) (dk kX5_whyNotChangeRow 26 rfl) ?_
              refine g_goto C (tgt := 54) (dk kX5_whyNotChangeRow 27 rfl) (by decide) ?_
              exact g_nmi (by rw [ex17, if_neg c19]) kj18
          clear h
          refine g_icmp_gt C (tgt := 41) (dk kX5_whyNotChangeRow 19 rfl) (by decide) (fun c20 => ?_) (fun c20 => ?_)
          · refine g_iconst C (v := 0) (by decide) (dk kX5_whyNotChangeRow 22 rfl) ?_
            exact g_nmi (by rw [ex15, if_pos c20]) kj16
          · refine g_iconst C (v := 1) (by decide) (dk kX5_whyNotChangeRow 20 rfl) ?_
            refine g_goto C (tgt := 42) (dk kX5_whyNotChangeRow 21 rfl) (by decide) ?_
            exact g_nmi (by rw [ex15, if_neg c20]) kj16
  · replace h := ite_t h c3
    refine g_iconst C (v := 1) (by decide) (dk kX5_whyNotChangeRow 4 rfl) ?_
    cases h
    exact g_iret C E rfl rfl (Nat.le_refl 0) (Nat.le_refl 0) (dk kX5_whyNotChangeRow 5 rfl)
theorem ct_X5_whyNotChangeRow {l : Launch} {Z : ZZ} {μ : Mm} {a0 : Nat} {a1 : Int32} {a2 : Int32} {a3 : Int32} {r : Int32} (k0 : (zk Z a0).1 = 4) (h : f_X5_whyNotChangeRow (zk Z) μ a0 a1 a2 a3 = some r) : CtM l Z false yX5_whyNotChangeRow cX5_whyNotChangeRow 5 (some .int) 1 0 0 [.ref (za Z a0), .int a1, .int a2, .int a3] μ (some (.int r)) Z μ := ct_of rfl rfl (Nat.le_of_ble_eq_true rfl) (fun X C E => t_X5_whyNotChangeRow μ a0 a1 a2 a3 r k0 h C E)

def qX5_whyNotNewCustomer : List (Nat × Instr × Nat) := [(0, .aload_n 0, 1), (1, .getfield 62, 3), (4, .bipush 6, 2), (6, .if_icmp .lt 7, 3), (9, .iconst 3, 1), (10, .goto 4, 3), (13, .iconst 0, 1), (14, .ireturn, 1)]
theorem kX5_whyNotNewCustomer : ∀ q ∈ qX5_whyNotNewCustomer, decode cX5_whyNotNewCustomer q.1 = .ok q.2 := by decide +kernel
def f_X5_whyNotNewCustomer (K : Nat → Nat × Nat) (μ : Mm) (a0 : Nat) : Option (Int32) :=
  lt1 (α := Int32) (if (μ.1 a0 6) < 6 then 0 else 3) fun x1 => some x1
set_option maxRecDepth 100000 in
set_option maxHeartbeats 4000000 in
theorem t_X5_whyNotNewCustomer {l : Launch} {Z : ZZ} {X : XX} (μ : Mm) (a0 : Nat) (r : Int32) (k0 : (zk Z a0).1 = 4) (h : f_X5_whyNotNewCustomer (zk Z) μ a0 = some r) (C : Cx l Z false X cX5_whyNotNewCustomer RX5 1 (some .int)) (E : Ex Z X 0 0 0 (some (.int r)) Z μ) : G Z X 1 0 0 0 [(0, .ref (za Z a0))] [] μ := by
  unfold f_X5_whyNotNewCustomer at h
  refine g_aload_n C (i := 0) 0 rfl rfl (dk kX5_whyNotNewCustomer 0 rfl) ?_
  refine gI_4_6 C k0 (C.w wd_1_180) (dk kX5_whyNotNewCustomer 1 rfl) ?_
  refine g_bipush C (v := 6) (by decide) (dk kX5_whyNotNewCustomer 2 rfl) ?_
  obtain ⟨x1, ex1, h⟩ := lt_inv h
  have kj2 : G Z X 1 0 0 14 [(0, .ref (za Z a0))] [.int x1] μ := by
    cases h
    exact g_iret C E rfl rfl (Nat.le_refl 0) (Nat.le_refl 0) (dk kX5_whyNotNewCustomer 7 rfl)
  clear h
  refine g_icmp_lt C (tgt := 13) (dk kX5_whyNotNewCustomer 3 rfl) (by decide) (fun c3 => ?_) (fun c3 => ?_)
  · refine g_iconst C (v := 0) (by decide) (dk kX5_whyNotNewCustomer 6 rfl) ?_
    exact g_nmi (by rw [ex1, if_pos c3]) kj2
  · refine g_iconst C (v := 3) (by decide) (dk kX5_whyNotNewCustomer 4 rfl) ?_
    refine g_goto C (tgt := 14) (dk kX5_whyNotNewCustomer 5 rfl) (by decide) ?_
    exact g_nmi (by rw [ex1, if_neg c3]) kj2
theorem ct_X5_whyNotNewCustomer {l : Launch} {Z : ZZ} {μ : Mm} {a0 : Nat} {r : Int32} (k0 : (zk Z a0).1 = 4) (h : f_X5_whyNotNewCustomer (zk Z) μ a0 = some r) : CtM l Z false yX5_whyNotNewCustomer cX5_whyNotNewCustomer 1 (some .int) 0 0 0 [.ref (za Z a0)] μ (some (.int r)) Z μ := ct_of rfl rfl (Nat.le_of_ble_eq_true rfl) (fun X C E => t_X5_whyNotNewCustomer μ a0 r k0 h C E)

def qX5_whyNotLet : List (Nat × Instr × Nat) := [(0, .aload_n 0, 1), (1, .iload_n 1, 1), (2, .invokevirtual 119, 3), (5, .ifCond .eq 19, 3), (8, .aload_n 0, 1), (9, .iload_n 2, 1), (10, .invokevirtual 104, 3), (13, .ifCond .eq 11, 3), (16, .aload_n 0, 1), (17, .iload_n 3, 1), (18, .invokevirtual 104, 3), (21, .ifCond .ne 5, 3), (24, .iconst 1, 1), (25, .ireturn, 1), (26, .iload_n 3, 1), (27, .iload_n 2, 1), (28, .if_icmp .ge 5, 3), (31, .iconst 2, 1), (32, .ireturn, 1), (33, .aload_n 0, 1), (34, .iload_n 1, 1), (35, .iload_n 2, 1), (36, .iload_n 3, 1), (37, .invokevirtual 122, 3), (40, .ifCond .eq 7, 3), (43, .iconst 3, 1), (44, .goto 4, 3), (47, .iconst 0, 1), (48, .ireturn, 1)]
theorem kX5_whyNotLet : ∀ q ∈ qX5_whyNotLet, decode cX5_whyNotLet q.1 = .ok q.2 := by decide +kernel
def f_X5_whyNotLet (K : Nat → Nat × Nat) (μ : Mm) (a0 : Nat) (a1 : Int32) (a2 : Int32) (a3 : Int32) : Option (Int32) :=
  bd (f_X5_hasCustomer K μ a0 a1) fun x2 => if x2 = 0 then (some 1) else (bd (f_X5_hasDot K μ a0 a2) fun x5 => if x5 = 0 then (some 1) else (bd (f_X5_hasDot K μ a0 a3) fun x8 => if x8 = 0 then (some 1) else (if a2 ≤ a3 then (bd (f_X5_othersRentOneOf K μ a0 a1 a2 a3) fun x12 => lt1 (α := Int32) (if x12 = 0 then 0 else 3) fun x13 => some x13) else (some 2))))
set_option maxRecDepth 100000 in
set_option maxHeartbeats 4000000 in
theorem t_X5_whyNotLet {l : Launch} {Z : ZZ} {X : XX} (μ : Mm) (a0 : Nat) (a1 : Int32) (a2 : Int32) (a3 : Int32) (r : Int32) (k0 : (zk Z a0).1 = 4) (h : f_X5_whyNotLet (zk Z) μ a0 a1 a2 a3 = some r) (C : Cx l Z false X cX5_whyNotLet RX5 4 (some .int)) (E : Ex Z X 2 0 0 (some (.int r)) Z μ) : G Z X 4 0 0 0 [(0, .ref (za Z a0)), (1, .int a1), (2, .int a2), (3, .int a3)] [] μ := by
  unfold f_X5_whyNotLet at h
  refine g_aload_n C (i := 0) 0 rfl rfl (dk kX5_whyNotLet 0 rfl) ?_
  refine g_iload_n C (i := 1) 1 rfl rfl (dk kX5_whyNotLet 1 rfl) ?_
  obtain ⟨x2, eq1, h⟩ := bd_inv h
  refine g_callV C E.2 (rest := []) 1 (ct_X5_hasCustomer k0 eq1) wd_2_147 mm_X5_hasCustomer ⟨rfl, by decide, by decide, by decide⟩ rfl (by decide) k0 (by decide) rfl rfl (Nat.le_of_ble_eq_true rfl) (by decide) (dk kX5_whyNotLet 2 rfl) ?_
  refine g_if_eq C (tgt := 24) (dk kX5_whyNotLet 3 rfl) (by decide) (fun c3 => ?_) (fun c3 => ?_)
  · replace h := ite_t h c3
    refine g_iconst C (v := 1) (by decide) (dk kX5_whyNotLet 12 rfl) ?_
    cases h
    exact g_iret C E rfl rfl (Nat.le_refl 0) (Nat.le_refl 0) (dk kX5_whyNotLet 13 rfl)
  · replace h := ite_f h c3
    refine g_aload_n C (i := 0) 0 rfl rfl (dk kX5_whyNotLet 4 rfl) ?_
    refine g_iload_n C (i := 2) 2 rfl rfl (dk kX5_whyNotLet 5 rfl) ?_
    obtain ⟨x5, eq4, h⟩ := bd_inv h
    refine g_callV C E.2 (rest := []) 1 (ct_X5_hasDot k0 eq4) wd_2_151 mm_X5_hasDot ⟨rfl, by decide, by decide, by decide⟩ rfl (by decide) k0 (by decide) rfl rfl (Nat.le_of_ble_eq_true rfl) (by decide) (dk kX5_whyNotLet 6 rfl) ?_
    refine g_if_eq C (tgt := 24) (dk kX5_whyNotLet 7 rfl) (by decide) (fun c6 => ?_) (fun c6 => ?_)
    · replace h := ite_t h c6
      refine g_iconst C (v := 1) (by decide) (dk kX5_whyNotLet 12 rfl) ?_
      cases h
      exact g_iret C E rfl rfl (Nat.le_refl 0) (Nat.le_refl 0) (dk kX5_whyNotLet 13 rfl)
    · replace h := ite_f h c6
      refine g_aload_n C (i := 0) 0 rfl rfl (dk kX5_whyNotLet 8 rfl) ?_
      refine g_iload_n C (i := 3) 3 rfl rfl (dk kX5_whyNotLet 9 rfl) ?_
      obtain ⟨x8, eq7, h⟩ := bd_inv h
      refine g_callV C E.2 (rest := []) 1 (ct_X5_hasDot k0 eq7) wd_2_151 mm_X5_hasDot ⟨rfl, by decide, by decide, by decide⟩ rfl (by decide) k0 (by decide) rfl rfl (Nat.le_of_ble_eq_true rfl) (by decide) (dk kX5_whyNotLet 10 rfl) ?_
      refine g_if_ne C (tgt := 26) (dk kX5_whyNotLet 11 rfl) (by decide) (fun c9 => ?_) (fun c9 => ?_)
      · replace h := ite_f h c9
        refine g_iload_n C (i := 3) 3 rfl rfl (dk kX5_whyNotLet 14 rfl) ?_
        refine g_iload_n C (i := 2) 2 rfl rfl (dk kX5_whyNotLet 15 rfl) ?_
        refine g_icmp_ge C (tgt := 33) (dk kX5_whyNotLet 16 rfl) (by decide) (fun c10 => ?_) (fun c10 => ?_)
        · replace h := ite_t h c10
          refine g_aload_n C (i := 0) 0 rfl rfl (dk kX5_whyNotLet 19 rfl) ?_
          refine g_iload_n C (i := 1) 1 rfl rfl (dk kX5_whyNotLet 20 rfl) ?_
          refine g_iload_n C (i := 2) 2 rfl rfl (dk kX5_whyNotLet 21 rfl) ?_
          refine g_iload_n C (i := 3) 3 rfl rfl (dk kX5_whyNotLet 22 rfl) ?_
          obtain ⟨x12, eq11, h⟩ := bd_inv h
          refine g_callV C E.2 (rest := []) 3 (ct_X5_othersRentOneOf k0 eq11) wd_2_155 mm_X5_othersRentOneOf ⟨rfl, by decide, by decide, by decide⟩ rfl (by decide) k0 (by decide) rfl rfl (Nat.le_of_ble_eq_true rfl) (by decide) (dk kX5_whyNotLet 23 rfl) ?_
          obtain ⟨x13, ex13, h⟩ := lt_inv h
          have kj14 : G Z X 4 0 0 48 [(0, .ref (za Z a0)), (1, .int a1), (2, .int a2), (3, .int a3)] [.int x13] μ := by
            cases h
            exact g_iret C E rfl rfl (Nat.le_refl 0) (Nat.le_refl 0) (dk kX5_whyNotLet 28 rfl)
          clear h
          refine g_if_eq C (tgt := 47) (dk kX5_whyNotLet 24 rfl) (by decide) (fun c15 => ?_) (fun c15 => ?_)
          · refine g_iconst C (v := 0) (by decide) (dk kX5_whyNotLet 27 rfl) ?_
            exact g_nmi (by rw [ex13, if_pos c15]) kj14
          · refine g_iconst C (v := 3) (by decide) (dk kX5_whyNotLet 25 rfl) ?_
            refine g_goto C (tgt := 48) (dk kX5_whyNotLet 26 rfl) (by decide) ?_
            exact g_nmi (by rw [ex13, if_neg c15]) kj14
        · replace h := ite_f h c10
          refine g_iconst C (v := 2) (by decide) (dk kX5_whyNotLet 17 rfl) ?_
          cases h
          exact g_iret C E rfl rfl (Nat.le_refl 0) (Nat.le_refl 0) (dk kX5_whyNotLet 18 rfl)
      · replace h := ite_t h c9
        refine g_iconst C (v := 1) (by decide) (dk kX5_whyNotLet 12 rfl) ?_
        cases h
        exact g_iret C E rfl rfl (Nat.le_refl 0) (Nat.le_refl 0) (dk kX5_whyNotLet 13 rfl)
theorem ct_X5_whyNotLet {l : Launch} {Z : ZZ} {μ : Mm} {a0 : Nat} {a1 : Int32} {a2 : Int32} {a3 : Int32} {r : Int32} (k0 : (zk Z a0).1 = 4) (h : f_X5_whyNotLet (zk Z) μ a0 a1 a2 a3 = some r) : CtM l Z false yX5_whyNotLet cX5_whyNotLet 4 (some .int) 2 0 0 [.ref (za Z a0), .int a1, .int a2, .int a3] μ (some (.int r)) Z μ := ct_of rfl rfl (Nat.le_of_ble_eq_true rfl) (fun X C E => t_X5_whyNotLet μ a0 a1 a2 a3 r k0 h C E)

def qX5_whyNotPrintAt : List (Nat × Instr × Nat) := [(0, .aload_n 0, 1), (1, .iload_n 1, 1), (2, .iload_n 2, 1), (3, .iload_n 3, 1), (4, .invokevirtual 138, 3), (7, .istore 4, 2), (9, .iload 4, 2), (11, .ifCond .eq 6, 3), (14, .iload 4, 2), (16, .ireturn, 1), (17, .aload_n 0, 1), (18, .iload_n 1, 1), (19, .iload_n 2, 1), (20, .iload_n 3, 1), (21, .invokevirtual 142, 3), (24, .ifCond .eq 7, 3), (27, .iconst 3, 1), (28, .goto 4, 3), (31, .iconst 0, 1), (32, .ireturn, 1)]
theorem kX5_whyNotPrintAt : ∀ q ∈ qX5_whyNotPrintAt, decode cX5_whyNotPrintAt q.1 = .ok q.2 := by decide +kernel
def f_X5_whyNotPrintAt (K : Nat → Nat × Nat) (μ : Mm) (a0 : Nat) (a1 : Int32) (a2 : Int32) (a3 : Int32) : Option (Int32) :=
  bd (f_X5_whyNotAskAbout K μ a0 a1 a2 a3) fun x2 => if x2 = 0 then (bd (f_X5_reasonAt K μ a0 a1 a2 a3) fun x5 => lt1 (α := Int32) (if x5 = 0 then 0 else 3) fun x6 => some x6) else (some x2)
set_option maxRecDepth 100000 in
set_option maxHeartbeats 4000000 in
theorem t_X5_whyNotPrintAt {l : Launch} {Z : ZZ} {X : XX} (μ : Mm) (a0 : Nat) (a1 : Int32) (a2 : Int32) (a3 : Int32) (r : Int32) (k0 : (zk Z a0).1 = 4) (h : f_X5_whyNotPrintAt (zk Z) μ a0 a1 a2 a3 = some r) (C : Cx l Z false X cX5_whyNotPrintAt RX5 5 (some .int)) (E : Ex Z X 3 0 0 (some (.int r)) Z μ) : G Z X 5 0 0 0 [(0, .ref (za Z a0)), (1, .int a1), (2, .int a2), (3, .int a3)] [] μ := by
  unfold f_X5_whyNotPrintAt at h
  refine g_aload_n C (i := 0) 0 rfl rfl (dk kX5_whyNotPrintAt 0 rfl) ?_
  refine g_iload_n C (i := 1) 1 rfl rfl (dk kX5_whyNotPrintAt 1 rfl) ?_
  refine g_iload_n C (i := 2) 2 rfl rfl (dk kX5_whyNotPrintAt 2 rfl) ?_
  refine g_iload_n C (i := 3) 3 rfl rfl (dk kX5_whyNotPrintAt 3 rfl) ?_
  obtain ⟨x2, eq1, h⟩ := bd_inv h
  refine g_callV C E.2 (rest := []) 3 (ct_X5_whyNotAskAbout k0 eq1) wd_2_167 mm_X5_whyNotAskAbout ⟨rfl, by decide, by decide, by decide⟩ rfl (by decide) k0 (by decide) rfl rfl (Nat.le_of_ble_eq_true rfl) (by decide) (dk kX5_whyNotPrintAt 4 rfl) ?_
  refine g_istore C (i := 4) (lv' := [(4, .int x2), (0, .ref (za Z a0)), (1, .int a1), (2, .int a2), (3, .int a3)]) (dk kX5_whyNotPrintAt 5 rfl) (by decide) rfl ?_
  refine g_iload C (i := 4) 0 rfl (dk kX5_whyNotPrintAt 6 rfl) ?_
  refine g_if_eq C (tgt := 17) (dk kX5_whyNotPrintAt 7 rfl) (by decide) (fun c3 => ?_) (fun c3 => ?_)
  · replace h := ite_t h c3
    refine g_aload_n C (i := 0) 1 rfl rfl (dk kX5_whyNotPrintAt 10 rfl) ?_
    refine g_iload_n C (i := 1) 2 rfl rfl (dk kX5_whyNotPrintAt 11 rfl) ?_
    refine g_iload_n C (i := 2) 3 rfl rfl (dk kX5_whyNotPrintAt 12 rfl) ?_
    refine g_iload_n C (i := 3) 4 rfl rfl (dk kX5_whyNotPrintAt 13 rfl) ?_
    obtain ⟨x5, eq4, h⟩ := bd_inv h
    refine g_callV C E.2 (rest := []) 3 (ct_X5_reasonAt k0 eq4) wd_2_171 mm_X5_reasonAt ⟨rfl, by decide, by decide, by decide⟩ rfl (by decide) k0 (by decide) rfl rfl (Nat.le_of_ble_eq_true rfl) (by decide) (dk kX5_whyNotPrintAt 14 rfl) ?_
    obtain ⟨x6, ex6, h⟩ := lt_inv h
    have kj7 : G Z X 5 0 0 32 [(4, .int x2), (0, .ref (za Z a0)), (1, .int a1), (2, .int a2), (3, .int a3)] [.int x6] μ := by
      cases h
      exact g_iret C E rfl rfl (Nat.le_refl 0) (Nat.le_refl 0) (dk kX5_whyNotPrintAt 19 rfl)
    clear h
    refine g_if_eq C (tgt := 31) (dk kX5_whyNotPrintAt 15 rfl) (by decide) (fun c8 => ?_) (fun c8 => ?_)
    · refine g_iconst C (v := 0) (by decide) (dk kX5_whyNotPrintAt 18 rfl) ?_
      exact g_nmi (by rw [ex6, if_pos c8]) kj7
    · refine g_iconst C (v := 3) (by decide) (dk kX5_whyNotPrintAt 16 rfl) ?_
      refine g_goto C (tgt := 32) (dk kX5_whyNotPrintAt 17 rfl) (by decide) ?_
      exact g_nmi (by rw [ex6, if_neg c8]) kj7
  · replace h := ite_f h c3
    refine g_iload C (i := 4) 0 rfl (dk kX5_whyNotPrintAt 8 rfl) ?_
    cases h
    exact g_iret C E rfl rfl (Nat.le_refl 0) (Nat.le_refl 0) (dk kX5_whyNotPrintAt 9 rfl)
theorem ct_X5_whyNotPrintAt {l : Launch} {Z : ZZ} {μ : Mm} {a0 : Nat} {a1 : Int32} {a2 : Int32} {a3 : Int32} {r : Int32} (k0 : (zk Z a0).1 = 4) (h : f_X5_whyNotPrintAt (zk Z) μ a0 a1 a2 a3 = some r) : CtM l Z false yX5_whyNotPrintAt cX5_whyNotPrintAt 5 (some .int) 3 0 0 [.ref (za Z a0), .int a1, .int a2, .int a3] μ (some (.int r)) Z μ := ct_of rfl rfl (Nat.le_of_ble_eq_true rfl) (fun X C E => t_X5_whyNotPrintAt μ a0 a1 a2 a3 r k0 h C E)

def qX5_whyNotPair : List (Nat × Instr × Nat) := [(0, .aload_n 0, 1), (1, .iload_n 1, 1), (2, .invokevirtual 119, 3), (5, .ifCond .eq 15, 3), (8, .aload_n 0, 1), (9, .iload_n 2, 1), (10, .invokevirtual 94, 3), (13, .ifCond .eq 7, 3), (16, .iconst 0, 1), (17, .goto 4, 3), (20, .iconst 1, 1), (21, .ireturn, 1)]
theorem kX5_whyNotPair : ∀ q ∈ qX5_whyNotPair, decode cX5_whyNotPair q.1 = .ok q.2 := by decide +kernel
def f_X5_whyNotPair (K : Nat → Nat × Nat) (μ : Mm) (a0 : Nat) (a1 : Int32) (a2 : Int32) : Option (Int32) :=
  bd (f_X5_hasCustomer K μ a0 a1) fun x2 => if x2 = 0 then (some 1) else (bd (f_X5_hasLabel K μ a0 a2) fun x5 => lt1 (α := Int32) (if x5 = 0 then 1 else 0) fun x6 => some x6)
set_option maxRecDepth 100000 in
set_option maxHeartbeats 4000000 in
theorem t_X5_whyNotPair {l : Launch} {Z : ZZ} {X : XX} (μ : Mm) (a0 : Nat) (a1 : Int32) (a2 : Int32) (r : Int32) (k0 : (zk Z a0).1 = 4) (h : f_X5_whyNotPair (zk Z) μ a0 a1 a2 = some r) (C : Cx l Z false X cX5_whyNotPair RX5 3 (some .int)) (E : Ex Z X 1 0 0 (some (.int r)) Z μ) : G Z X 3 0 0 0 [(0, .ref (za Z a0)), (1, .int a1), (2, .int a2)] [] μ := by
  unfold f_X5_whyNotPair at h
  refine g_aload_n C (i := 0) 0 rfl rfl (dk kX5_whyNotPair 0 rfl) ?_
  refine g_iload_n C (i := 1) 1 rfl rfl (dk kX5_whyNotPair 1 rfl) ?_
  obtain ⟨x2, eq1, h⟩ := bd_inv h
  refine g_callV C E.2 (rest := []) 1 (ct_X5_hasCustomer k0 eq1) wd_2_147 mm_X5_hasCustomer ⟨rfl, by decide, by decide, by decide⟩ rfl (by decide) k0 (by decide) rfl rfl (Nat.le_of_ble_eq_true rfl) (by decide) (dk kX5_whyNotPair 2 rfl) ?_
  refine g_if_eq C (tgt := 20) (dk kX5_whyNotPair 3 rfl) (by decide) (fun c3 => ?_) (fun c3 => ?_)
  · replace h := ite_t h c3
    refine g_iconst C (v := 1) (by decide) (dk kX5_whyNotPair 10 rfl) ?_
    cases h
    exact g_iret C E rfl rfl (Nat.le_refl 0) (Nat.le_refl 0) (dk kX5_whyNotPair 11 rfl)
  · replace h := ite_f h c3
    refine g_aload_n C (i := 0) 0 rfl rfl (dk kX5_whyNotPair 4 rfl) ?_
    refine g_iload_n C (i := 2) 2 rfl rfl (dk kX5_whyNotPair 5 rfl) ?_
    obtain ⟨x5, eq4, h⟩ := bd_inv h
    refine g_callV C E.2 (rest := []) 1 (ct_X5_hasLabel k0 eq4) wd_2_131 mm_X5_hasLabel ⟨rfl, by decide, by decide, by decide⟩ rfl (by decide) k0 (by decide) rfl rfl (Nat.le_of_ble_eq_true rfl) (by decide) (dk kX5_whyNotPair 6 rfl) ?_
    obtain ⟨x6, ex6, h⟩ := lt_inv h
    have kj7 : G Z X 3 0 0 21 [(0, .ref (za Z a0)), (1, .int a1), (2, .int a2)] [.int x6] μ := by
      cases h
      exact g_iret C E rfl rfl (Nat.le_refl 0) (Nat.le_refl 0) (dk kX5_whyNotPair 11 rfl)
    clear h
    refine g_if_eq C (tgt := 20) (dk kX5_whyNotPair 7 rfl) (by decide) (fun c8 => ?_) (fun c8 => ?_)
    · refine g_iconst C (v := 1) (by decide) (dk kX5_whyNotPair 10 rfl) ?_
      exact g_nmi (by rw [ex6, if_pos c8]) kj7
    · refine g_iconst C (v := 0) (by decide) (dk kX5_whyNotPair 8 rfl) ?_
      refine g_goto C (tgt := 21) (dk kX5_whyNotPair 9 rfl) (by decide) ?_
      exact g_nmi (by rw [ex6, if_neg c8]) kj7
theorem ct_X5_whyNotPair {l : Launch} {Z : ZZ} {μ : Mm} {a0 : Nat} {a1 : Int32} {a2 : Int32} {r : Int32} (k0 : (zk Z a0).1 = 4) (h : f_X5_whyNotPair (zk Z) μ a0 a1 a2 = some r) : CtM l Z false yX5_whyNotPair cX5_whyNotPair 3 (some .int) 1 0 0 [.ref (za Z a0), .int a1, .int a2] μ (some (.int r)) Z μ := ct_of rfl rfl (Nat.le_of_ble_eq_true rfl) (fun X C E => t_X5_whyNotPair μ a0 a1 a2 r k0 h C E)

def qX5_whyNotPrintAtBest : List (Nat × Instr × Nat) := [(0, .aload_n 0, 1), (1, .iload_n 1, 1), (2, .iload_n 2, 1), (3, .invokevirtual 170, 3), (6, .ifCond .eq 5, 3), (9, .iconst 1, 1), (10, .ireturn, 1), (11, .aload_n 0, 1), (12, .iload_n 1, 1), (13, .iload_n 2, 1), (14, .invokevirtual 174, 3), (17, .iconst (-1), 1), (18, .if_icmp .ne 7, 3), (21, .iconst 3, 1), (22, .goto 4, 3), (25, .iconst 0, 1), (26, .ireturn, 1)]
theorem kX5_whyNotPrintAtBest : ∀ q ∈ qX5_whyNotPrintAtBest, decode cX5_whyNotPrintAtBest q.1 = .ok q.2 := by decide +kernel
def f_X5_whyNotPrintAtBest (K : Nat → Nat × Nat) (μ : Mm) (a0 : Nat) (a1 : Int32) (a2 : Int32) : Option (Int32 × Mm) :=
  bd (f_X5_whyNotPair K μ a0 a1 a2) fun x2 => if x2 = 0 then (bd (f_X5_bestPlace K μ a0 a1 a2) fun q4 => lt1 q4.1 fun x6 => lt1 q4.2 fun μ5 => lt1 (α := Int32) (if x6 = (-1) then 3 else 0) fun x7 => some (x7, μ5)) else (some (1, μ))
set_option maxRecDepth 100000 in
set_option maxHeartbeats 4000000 in
theorem t_X5_whyNotPrintAtBest {l : Launch} {Z : ZZ} {X : XX} (μ : Mm) (a0 : Nat) (a1 : Int32) (a2 : Int32) (r : Int32) (μ' : Mm) (k0 : (zk Z a0).1 = 4) (h : f_X5_whyNotPrintAtBest (zk Z) μ a0 a1 a2 = some (r, μ')) (C : Cx l Z false X cX5_whyNotPrintAtBest RX5 3 (some .int)) (E : Ex Z X 4 0 0 (some (.int r)) Z μ') : G Z X 3 0 0 0 [(0, .ref (za Z a0)), (1, .int a1), (2, .int a2)] [] μ := by
  unfold f_X5_whyNotPrintAtBest at h
  refine g_aload_n C (i := 0) 0 rfl rfl (dk kX5_whyNotPrintAtBest 0 rfl) ?_
  refine g_iload_n C (i := 1) 1 rfl rfl (dk kX5_whyNotPrintAtBest 1 rfl) ?_
  refine g_iload_n C (i := 2) 2 rfl rfl (dk kX5_whyNotPrintAtBest 2 rfl) ?_
  obtain ⟨x2, eq1, h⟩ := bd_inv h
  refine g_callV C E.2 (rest := []) 2 (ct_X5_whyNotPair k0 eq1) wd_2_189 mm_X5_whyNotPair ⟨rfl, by decide, by decide, by decide⟩ rfl (by decide) k0 (by decide) rfl rfl (Nat.le_of_ble_eq_true rfl) (by decide) (dk kX5_whyNotPrintAtBest 3 rfl) ?_
  refine g_if_eq C (tgt := 11) (dk kX5_whyNotPrintAtBest 4 rfl) (by decide) (fun c3 => ?_) (fun c3 => ?_)
  · replace h := ite_t h c3
    refine g_aload_n C (i := 0) 0 rfl rfl (dk kX5_whyNotPrintAtBest 7 rfl) ?_
    refine g_iload_n C (i := 1) 1 rfl rfl (dk kX5_whyNotPrintAtBest 8 rfl) ?_
    refine g_iload_n C (i := 2) 2 rfl rfl (dk kX5_whyNotPrintAtBest 9 rfl) ?_
    obtain ⟨q4, eq4, h⟩ := bd_inv h
    obtain ⟨x6, ex6, h⟩ := lt_inv h
    obtain ⟨μ5, eμ5, h⟩ := lt_inv h
    rw [show q4 = (x6, μ5) from by rw [ex6, eμ5]] at eq4
    refine g_callV C E.2 (rest := []) 2 (ct_X5_bestPlace k0 eq4) wd_2_193 mm_X5_bestPlace ⟨rfl, by decide, by decide, by decide⟩ rfl (by decide) k0 (by decide) rfl rfl (Nat.le_of_ble_eq_true rfl) (by decide) (dk kX5_whyNotPrintAtBest 10 rfl) ?_
    refine g_iconst C (v := (-1)) (by decide) (dk kX5_whyNotPrintAtBest 11 rfl) ?_
    obtain ⟨x7, ex7, h⟩ := lt_inv h
    have kj8 : G Z X 3 0 0 26 [(0, .ref (za Z a0)), (1, .int a1), (2, .int a2)] [.int x7] μ5 := by
      cases h
      exact g_iret C E rfl rfl (Nat.le_refl 0) (Nat.le_refl 0) (dk kX5_whyNotPrintAtBest 16 rfl)
    clear h
    refine g_icmp_ne C (tgt := 25) (dk kX5_whyNotPrintAtBest 12 rfl) (by decide) (fun c9 => ?_) (fun c9 => ?_)
    · refine g_iconst C (v := 0) (by decide) (dk kX5_whyNotPrintAtBest 15 rfl) ?_
      exact g_nmi (by rw [ex7, if_neg c9]) kj8
    · refine g_iconst C (v := 3) (by decide) (dk kX5_whyNotPrintAtBest 13 rfl) ?_
      refine g_goto C (tgt := 26) (dk kX5_whyNotPrintAtBest 14 rfl) (by decide) ?_
      exact g_nmi (by rw [ex7, if_pos c9]) kj8
  · replace h := ite_f h c3
    refine g_iconst C (v := 1) (by decide) (dk kX5_whyNotPrintAtBest 5 rfl) ?_
    cases h
    exact g_iret C E rfl rfl (Nat.le_refl 0) (Nat.le_refl 0) (dk kX5_whyNotPrintAtBest 6 rfl)
theorem ct_X5_whyNotPrintAtBest {l : Launch} {Z : ZZ} {μ : Mm} {a0 : Nat} {a1 : Int32} {a2 : Int32} {r : Int32} {μ' : Mm} (k0 : (zk Z a0).1 = 4) (h : f_X5_whyNotPrintAtBest (zk Z) μ a0 a1 a2 = some (r, μ')) : CtM l Z false yX5_whyNotPrintAtBest cX5_whyNotPrintAtBest 3 (some .int) 4 0 0 [.ref (za Z a0), .int a1, .int a2] μ (some (.int r)) Z μ' := ct_of rfl rfl (Nat.le_of_ble_eq_true rfl) (fun X C E => t_X5_whyNotPrintAtBest μ a0 a1 a2 r μ' k0 h C E)

def qX5_whyNotPassLines : List (Nat × Instr × Nat) := [(0, .iload_n 1, 1), (1, .iconst 1, 1), (2, .if_icmp .lt 9, 3), (5, .iload_n 1, 1), (6, .bipush 20, 2), (8, .if_icmp .le 7, 3), (11, .iconst 2, 1), (12, .goto 4, 3), (15, .iconst 0, 1), (16, .ireturn, 1)]
theorem kX5_whyNotPassLines : ∀ q ∈ qX5_whyNotPassLines, decode cX5_whyNotPassLines q.1 = .ok q.2 := by decide +kernel
def f_X5_whyNotPassLines (a0 : Nat) (a1 : Int32) : Option (Int32) :=
  lt1 (α := Int32) (if a1 < 1 then 2 else (if a1 ≤ 20 then 0 else 2)) fun x1 => some x1
set_option maxRecDepth 100000 in
set_option maxHeartbeats 4000000 in
theorem t_X5_whyNotPassLines {l : Launch} {Z : ZZ} {X : XX} (μ : Mm) (a0 : Nat) (a1 : Int32) (r : Int32) (k0 : (zk Z a0).1 = 4) (h : f_X5_whyNotPassLines a0 a1 = some r) (C : Cx l Z false X cX5_whyNotPassLines RX5 2 (some .int)) (E : Ex Z X 0 0 0 (some (.int r)) Z μ) : G Z X 2 0 0 0 [(0, .ref (za Z a0)), (1, .int a1)] [] μ := by
  unfold f_X5_whyNotPassLines at h
  refine g_iload_n C (i := 1) 1 rfl rfl (dk kX5_whyNotPassLines 0 rfl) ?_
  refine g_iconst C (v := 1) (by decide) (dk kX5_whyNotPassLines 1 rfl) ?_
  obtain ⟨x1, ex1, h⟩ := lt_inv h
  have kj2 : G Z X 2 0 0 16 [(0, .ref (za Z a0)), (1, .int a1)] [.int x1] μ := by
    cases h
    exact g_iret C E rfl rfl (Nat.le_refl 0) (Nat.le_refl 0) (dk kX5_whyNotPassLines 9 rfl)
  clear h
  refine g_icmp_lt C (tgt := 11) (dk kX5_whyNotPassLines 2 rfl) (by decide) (fun c3 => ?_) (fun c3 => ?_)
  · refine g_iconst C (v := 2) (by decide) (dk kX5_whyNotPassLines 6 rfl) ?_
    refine g_goto C (tgt := 16) (dk kX5_whyNotPassLines 7 rfl) (by decide) ?_
    exact g_nmi (by rw [ex1, if_pos c3]) kj2
  · refine g_iload_n C (i := 1) 1 rfl rfl (dk kX5_whyNotPassLines 3 rfl) ?_
    refine g_bipush C (v := 20) (by decide) (dk kX5_whyNotPassLines 4 rfl) ?_
    refine g_icmp_le C (tgt := 15) (dk kX5_whyNotPassLines 5 rfl) (by decide) (fun c4 => ?_) (fun c4 => ?_)
    · refine g_iconst C (v := 0) (by decide) (dk kX5_whyNotPassLines 8 rfl) ?_
      exact g_nmi (by rw [ex1, if_neg c3, if_pos c4]) kj2
    · refine g_iconst C (v := 2) (by decide) (dk kX5_whyNotPassLines 6 rfl) ?_
      refine g_goto C (tgt := 16) (dk kX5_whyNotPassLines 7 rfl) (by decide) ?_
      exact g_nmi (by rw [ex1, if_neg c3, if_neg c4]) kj2
theorem ct_X5_whyNotPassLines {l : Launch} {Z : ZZ} {μ : Mm} {a0 : Nat} {a1 : Int32} {r : Int32} (k0 : (zk Z a0).1 = 4) (h : f_X5_whyNotPassLines a0 a1 = some r) : CtM l Z false yX5_whyNotPassLines cX5_whyNotPassLines 2 (some .int) 0 0 0 [.ref (za Z a0), .int a1] μ (some (.int r)) Z μ := ct_of rfl rfl (Nat.le_of_ble_eq_true rfl) (fun X C E => t_X5_whyNotPassLines μ a0 a1 r k0 h C E)

def qX5_whyNotNewDot : List (Nat × Instr × Nat) := [(0, .aload_n 0, 1), (1, .iload_n 1, 1), (2, .invokevirtual 104, 3), (5, .ifCond .eq 7, 3), (8, .iconst 0, 1), (9, .goto 4, 3), (12, .iconst 1, 1), (13, .ireturn, 1)]
theorem kX5_whyNotNewDot : ∀ q ∈ qX5_whyNotNewDot, decode cX5_whyNotNewDot q.1 = .ok q.2 := by decide +kernel
def f_X5_whyNotNewDot (K : Nat → Nat × Nat) (μ : Mm) (a0 : Nat) (a1 : Int32) : Option (Int32) :=
  bd (f_X5_hasDot K μ a0 a1) fun x2 => lt1 (α := Int32) (if x2 = 0 then 1 else 0) fun x3 => some x3
set_option maxRecDepth 100000 in
set_option maxHeartbeats 4000000 in
theorem t_X5_whyNotNewDot {l : Launch} {Z : ZZ} {X : XX} (μ : Mm) (a0 : Nat) (a1 : Int32) (r : Int32) (k0 : (zk Z a0).1 = 4) (h : f_X5_whyNotNewDot (zk Z) μ a0 a1 = some r) (C : Cx l Z false X cX5_whyNotNewDot RX5 2 (some .int)) (E : Ex Z X 1 0 0 (some (.int r)) Z μ) : G Z X 2 0 0 0 [(0, .ref (za Z a0)), (1, .int a1)] [] μ := by
  unfold f_X5_whyNotNewDot at h
  refine g_aload_n C (i := 0) 0 rfl rfl (dk kX5_whyNotNewDot 0 rfl) ?_
  refine g_iload_n C (i := 1) 1 rfl rfl (dk kX5_whyNotNewDot 1 rfl) ?_
  obtain ⟨x2, eq1, h⟩ := bd_inv h
  refine g_callV C E.2 (rest := []) 1 (ct_X5_hasDot k0 eq1) wd_2_151 mm_X5_hasDot ⟨rfl, by decide, by decide, by decide⟩ rfl (by decide) k0 (by decide) rfl rfl (Nat.le_of_ble_eq_true rfl) (by decide) (dk kX5_whyNotNewDot 2 rfl) ?_
  obtain ⟨x3, ex3, h⟩ := lt_inv h
  have kj4 : G Z X 2 0 0 13 [(0, .ref (za Z a0)), (1, .int a1)] [.int x3] μ := by
    cases h
    exact g_iret C E rfl rfl (Nat.le_refl 0) (Nat.le_refl 0) (dk kX5_whyNotNewDot 7 rfl)
  clear h
  refine g_if_eq C (tgt := 12) (dk kX5_whyNotNewDot 3 rfl) (by decide) (fun c5 => ?_) (fun c5 => ?_)
  · refine g_iconst C (v := 1) (by decide) (dk kX5_whyNotNewDot 6 rfl) ?_
    exact g_nmi (by rw [ex3, if_pos c5]) kj4
  · refine g_iconst C (v := 0) (by decide) (dk kX5_whyNotNewDot 4 rfl) ?_
    refine g_goto C (tgt := 13) (dk kX5_whyNotNewDot 5 rfl) (by decide) ?_
    exact g_nmi (by rw [ex3, if_neg c5]) kj4
theorem ct_X5_whyNotNewDot {l : Launch} {Z : ZZ} {μ : Mm} {a0 : Nat} {a1 : Int32} {r : Int32} (k0 : (zk Z a0).1 = 4) (h : f_X5_whyNotNewDot (zk Z) μ a0 a1 = some r) : CtM l Z false yX5_whyNotNewDot cX5_whyNotNewDot 2 (some .int) 1 0 0 [.ref (za Z a0), .int a1] μ (some (.int r)) Z μ := ct_of rfl rfl (Nat.le_of_ble_eq_true rfl) (fun X C E => t_X5_whyNotNewDot μ a0 a1 r k0 h C E)

def qX5_whyNotCustomerValue : List (Nat × Instr × Nat) := [(0, .aload_n 0, 1), (1, .iload_n 1, 1), (2, .invokevirtual 119, 3), (5, .ifCond .ne 5, 3), (8, .iconst 1, 1), (9, .ireturn, 1), (10, .iload_n 2, 1), (11, .ifCond .lt 9, 3), (14, .iload_n 2, 1), (15, .bipush 6, 2), (17, .if_icmp .lt 7, 3), (20, .iconst 2, 1), (21, .goto 4, 3), (24, .iconst 0, 1), (25, .ireturn, 1)]
theorem kX5_whyNotCustomerValue : ∀ q ∈ qX5_whyNotCustomerValue, decode cX5_whyNotCustomerValue q.1 = .ok q.2 := by decide +kernel
def f_X5_whyNotCustomerValue (K : Nat → Nat × Nat) (μ : Mm) (a0 : Nat) (a1 : Int32) (a2 : Int32) : Option (Int32) :=
  bd (f_X5_hasCustomer K μ a0 a1) fun x2 => if x2 = 0 then (some 1) else (lt1 (α := Int32) (if a2 < 0 then 2 else (if a2 < 6 then 0 else 2)) fun x4 => some x4)
set_option maxRecDepth 100000 in
set_option maxHeartbeats 4000000 in
theorem t_X5_whyNotCustomerValue {l : Launch} {Z : ZZ} {X : XX} (μ : Mm) (a0 : Nat) (a1 : Int32) (a2 : Int32) (r : Int32) (k0 : (zk Z a0).1 = 4) (h : f_X5_whyNotCustomerValue (zk Z) μ a0 a1 a2 = some r) (C : Cx l Z false X cX5_whyNotCustomerValue RX5 3 (some .int)) (E : Ex Z X 1 0 0 (some (.int r)) Z μ) : G Z X 3 0 0 0 [(0, .ref (za Z a0)), (1, .int a1), (2, .int a2)] [] μ := by
  unfold f_X5_whyNotCustomerValue at h
  refine g_aload_n C (i := 0) 0 rfl rfl (dk kX5_whyNotCustomerValue 0 rfl) ?_
  refine g_iload_n C (i := 1) 1 rfl rfl (dk kX5_whyNotCustomerValue 1 rfl) ?_
  obtain ⟨x2, eq1, h⟩ := bd_inv h
  refine g_callV C E.2 (rest := []) 1 (ct_X5_hasCustomer k0 eq1) wd_2_147 mm_X5_hasCustomer ⟨rfl, by decide, by decide, by decide⟩ rfl (by decide) k0 (by decide) rfl rfl (Nat.le_of_ble_eq_true rfl) (by decide) (dk kX5_whyNotCustomerValue 2 rfl) ?_
  refine g_if_ne C (tgt := 10) (dk kX5_whyNotCustomerValue 3 rfl) (by decide) (fun c3 => ?_) (fun c3 => ?_)
  · replace h := ite_f h c3
    refine g_iload_n C (i := 2) 2 rfl rfl (dk kX5_whyNotCustomerValue 6 rfl) ?_
    obtain ⟨x4, ex4, h⟩ := lt_inv h
    have kj5 : G Z X 3 0 0 25 [(0, .ref (za Z a0)), (1, .int a1), (2, .int a2)] [.int x4] μ := by
      cases h
      exact g_iret C E rfl rfl (Nat.le_refl 0) (Nat.le_refl 0) (dk kX5_whyNotCustomerValue 14 rfl)
    clear h
    refine g_if_lt C (tgt := 20) (dk kX5_whyNotCustomerValue 7 rfl) (by decide) (fun c6 => ?_) (fun c6 => ?_)
    · refine g_iconst C (v := 2) (by decide) (dk kX5_whyNotCustomerValue 11 rfl) ?_
      refine g_goto C (tgt := 25) (dk kX5_whyNotCustomerValue 12 rfl) (by decide) ?_
      exact g_nmi (by rw [ex4, if_pos c6]) kj5
    · refine g_iload_n C (i := 2) 2 rfl rfl (dk kX5_whyNotCustomerValue 8 rfl) ?_
      refine g_bipush C (v := 6) (by decide) (dk kX5_whyNotCustomerValue 9 rfl) ?_
      refine g_icmp_lt C (tgt := 24) (dk kX5_whyNotCustomerValue 10 rfl) (by decide) (fun c7 => ?_) (fun c7 => ?_)
      · refine g_iconst C (v := 0) (by decide) (dk kX5_whyNotCustomerValue 13 rfl) ?_
        exact g_nmi (by rw [ex4, if_neg c6, if_pos c7]) kj5
      · refine g_iconst C (v := 2) (by decide) (dk kX5_whyNotCustomerValue 11 rfl) ?_
        refine g_goto C (tgt := 25) (dk kX5_whyNotCustomerValue 12 rfl) (by decide) ?_
        exact g_nmi (by rw [ex4, if_neg c6, if_neg c7]) kj5
  · replace h := ite_t h c3
    refine g_iconst C (v := 1) (by decide) (dk kX5_whyNotCustomerValue 4 rfl) ?_
    cases h
    exact g_iret C E rfl rfl (Nat.le_refl 0) (Nat.le_refl 0) (dk kX5_whyNotCustomerValue 5 rfl)
theorem ct_X5_whyNotCustomerValue {l : Launch} {Z : ZZ} {μ : Mm} {a0 : Nat} {a1 : Int32} {a2 : Int32} {r : Int32} (k0 : (zk Z a0).1 = 4) (h : f_X5_whyNotCustomerValue (zk Z) μ a0 a1 a2 = some r) : CtM l Z false yX5_whyNotCustomerValue cX5_whyNotCustomerValue 3 (some .int) 1 0 0 [.ref (za Z a0), .int a1, .int a2] μ (some (.int r)) Z μ := ct_of rfl rfl (Nat.le_of_ble_eq_true rfl) (fun X C E => t_X5_whyNotCustomerValue μ a0 a1 a2 r k0 h C E)

def qX5_whyNotDotValue : List (Nat × Instr × Nat) := [(0, .aload_n 0, 1), (1, .iload_n 1, 1), (2, .invokevirtual 104, 3), (5, .ifCond .ne 5, 3), (8, .iconst 1, 1), (9, .ireturn, 1), (10, .iload_n 2, 1), (11, .ifCond .lt 8, 3), (14, .iload_n 2, 1), (15, .iconst 5, 1), (16, .if_icmp .lt 7, 3), (19, .iconst 2, 1), (20, .goto 4, 3), (23, .iconst 0, 1), (24, .ireturn, 1)]
theorem kX5_whyNotDotValue : ∀ q ∈ qX5_whyNotDotValue, decode cX5_whyNotDotValue q.1 = .ok q.2 := by decide +kernel
def f_X5_whyNotDotValue (K : Nat → Nat × Nat) (μ : Mm) (a0 : Nat) (a1 : Int32) (a2 : Int32) : Option (Int32) :=
  bd (f_X5_hasDot K μ a0 a1) fun x2 => if x2 = 0 then (some 1) else (lt1 (α := Int32) (if a2 < 0 then 2 else (if a2 < 5 then 0 else 2)) fun x4 => some x4)
set_option maxRecDepth 100000 in
set_option maxHeartbeats 4000000 in
theorem t_X5_whyNotDotValue {l : Launch} {Z : ZZ} {X : XX} (μ : Mm) (a0 : Nat) (a1 : Int32) (a2 : Int32) (r : Int32) (k0 : (zk Z a0).1 = 4) (h : f_X5_whyNotDotValue (zk Z) μ a0 a1 a2 = some r) (C : Cx l Z false X cX5_whyNotDotValue RX5 3 (some .int)) (E : Ex Z X 1 0 0 (some (.int r)) Z μ) : G Z X 3 0 0 0 [(0, .ref (za Z a0)), (1, .int a1), (2, .int a2)] [] μ := by
  unfold f_X5_whyNotDotValue at h
  refine g_aload_n C (i := 0) 0 rfl rfl (dk kX5_whyNotDotValue 0 rfl) ?_
  refine g_iload_n C (i := 1) 1 rfl rfl (dk kX5_whyNotDotValue 1 rfl) ?_
  obtain ⟨x2, eq1, h⟩ := bd_inv h
  refine g_callV C E.2 (rest := []) 1 (ct_X5_hasDot k0 eq1) wd_2_151 mm_X5_hasDot ⟨rfl, by decide, by decide, by decide⟩ rfl (by decide) k0 (by decide) rfl rfl (Nat.le_of_ble_eq_true rfl) (by decide) (dk kX5_whyNotDotValue 2 rfl) ?_
  refine g_if_ne C (tgt := 10) (dk kX5_whyNotDotValue 3 rfl) (by decide) (fun c3 => ?_) (fun c3 => ?_)
  · replace h := ite_f h c3
    refine g_iload_n C (i := 2) 2 rfl rfl (dk kX5_whyNotDotValue 6 rfl) ?_
    obtain ⟨x4, ex4, h⟩ := lt_inv h
    have kj5 : G Z X 3 0 0 24 [(0, .ref (za Z a0)), (1, .int a1), (2, .int a2)] [.int x4] μ := by
      cases h
      exact g_iret C E rfl rfl (Nat.le_refl 0) (Nat.le_refl 0) (dk kX5_whyNotDotValue 14 rfl)
    clear h
    refine g_if_lt C (tgt := 19) (dk kX5_whyNotDotValue 7 rfl) (by decide) (fun c6 => ?_) (fun c6 => ?_)
    · refine g_iconst C (v := 2) (by decide) (dk kX5_whyNotDotValue 11 rfl) ?_
      refine g_goto C (tgt := 24) (dk kX5_whyNotDotValue 12 rfl) (by decide) ?_
      exact g_nmi (by rw [ex4, if_pos c6]) kj5
    · refine g_iload_n C (i := 2) 2 rfl rfl (dk kX5_whyNotDotValue 8 rfl) ?_
      refine g_iconst C (v := 5) (by decide) (dk kX5_whyNotDotValue 9 rfl) ?_
      refine g_icmp_lt C (tgt := 23) (dk kX5_whyNotDotValue 10 rfl) (by decide) (fun c7 => ?_) (fun c7 => ?_)
      · refine g_iconst C (v := 0) (by decide) (dk kX5_whyNotDotValue 13 rfl) ?_
        exact g_nmi (by rw [ex4, if_neg c6, if_pos c7]) kj5
      · refine g_iconst C (v := 2) (by decide) (dk kX5_whyNotDotValue 11 rfl) ?_
        refine g_goto C (tgt := 24) (dk kX5_whyNotDotValue 12 rfl) (by decide) ?_
        exact g_nmi (by rw [ex4, if_neg c6, if_neg c7]) kj5
  · replace h := ite_t h c3
    refine g_iconst C (v := 1) (by decide) (dk kX5_whyNotDotValue 4 rfl) ?_
    cases h
    exact g_iret C E rfl rfl (Nat.le_refl 0) (Nat.le_refl 0) (dk kX5_whyNotDotValue 5 rfl)
theorem ct_X5_whyNotDotValue {l : Launch} {Z : ZZ} {μ : Mm} {a0 : Nat} {a1 : Int32} {a2 : Int32} {r : Int32} (k0 : (zk Z a0).1 = 4) (h : f_X5_whyNotDotValue (zk Z) μ a0 a1 a2 = some r) : CtM l Z false yX5_whyNotDotValue cX5_whyNotDotValue 3 (some .int) 1 0 0 [.ref (za Z a0), .int a1, .int a2] μ (some (.int r)) Z μ := ct_of rfl rfl (Nat.le_of_ble_eq_true rfl) (fun X C E => t_X5_whyNotDotValue μ a0 a1 a2 r k0 h C E)

def qX5_whyNotEndLet : List (Nat × Instr × Nat) := [(0, .aload_n 0, 1), (1, .iload_n 1, 1), (2, .invokevirtual 119, 3), (5, .ifCond .ne 5, 3), (8, .iconst 1, 1), (9, .ireturn, 1), (10, .aload_n 0, 1), (11, .getfield 30, 3), (14, .iload_n 1, 1), (15, .aaload, 1), (16, .invokevirtual 135, 3), (19, .ifCond .ne 7, 3), (22, .iconst 3, 1), (23, .goto 4, 3), (26, .iconst 0, 1), (27, .ireturn, 1)]
theorem kX5_whyNotEndLet : ∀ q ∈ qX5_whyNotEndLet, decode cX5_whyNotEndLet q.1 = .ok q.2 := by decide +kernel
def f_X5_whyNotEndLet (K : Nat → Nat × Nat) (μ : Mm) (a0 : Nat) (a1 : Int32) : Option (Int32) :=
  bd (f_X5_hasCustomer K μ a0 a1) fun x2 => if x2 = 0 then (some 1) else (bd (rf K μ a0 5 9) fun b4 => gd (inb a1 (K b4).2) <| bd (rf K μ b4 (ix a1) 1) fun b6 => bd (f_X2_rented K μ b6) fun x8 => lt1 (α := Int32) (if x8 = 0 then 3 else 0) fun x9 => some x9)
set_option maxRecDepth 100000 in
set_option maxHeartbeats 4000000 in
theorem t_X5_whyNotEndLet {l : Launch} {Z : ZZ} {X : XX} (μ : Mm) (a0 : Nat) (a1 : Int32) (r : Int32) (k0 : (zk Z a0).1 = 4) (h : f_X5_whyNotEndLet (zk Z) μ a0 a1 = some r) (C : Cx l Z false X cX5_whyNotEndLet RX5 2 (some .int)) (E : Ex Z X 1 0 0 (some (.int r)) Z μ) : G Z X 2 0 0 0 [(0, .ref (za Z a0)), (1, .int a1)] [] μ := by
  unfold f_X5_whyNotEndLet at h
  refine g_aload_n C (i := 0) 0 rfl rfl (dk kX5_whyNotEndLet 0 rfl) ?_
  refine g_iload_n C (i := 1) 1 rfl rfl (dk kX5_whyNotEndLet 1 rfl) ?_
  obtain ⟨x2, eq1, h⟩ := bd_inv h
  refine g_callV C E.2 (rest := []) 1 (ct_X5_hasCustomer k0 eq1) wd_2_147 mm_X5_hasCustomer ⟨rfl, by decide, by decide, by decide⟩ rfl (by decide) k0 (by decide) rfl rfl (Nat.le_of_ble_eq_true rfl) (by decide) (dk kX5_whyNotEndLet 2 rfl) ?_
  refine g_if_ne C (tgt := 10) (dk kX5_whyNotEndLet 3 rfl) (by decide) (fun c3 => ?_) (fun c3 => ?_)
  · replace h := ite_f h c3
    refine g_aload_n C (i := 0) 0 rfl rfl (dk kX5_whyNotEndLet 6 rfl) ?_
    obtain ⟨b4, eb4, h⟩ := bd_inv h
    obtain ⟨rb4, kb4⟩ := rf_inv eb4
    refine gR_4_5 C k0 (C.w wd_1_178) rb4 (dk kX5_whyNotEndLet 7 rfl) ?_
    refine g_iload_n C (i := 1) 1 rfl rfl (dk kX5_whyNotEndLet 8 rfl) ?_
    obtain ⟨c5, h⟩ := gd_inv h
    obtain ⟨b6, eb6, h⟩ := bd_inv h
    obtain ⟨rb6, kb6⟩ := rf_inv eb6
    refine gA_9 C kb4 c5 rb6 (dk kX5_whyNotEndLet 9 rfl) ?_
    obtain ⟨x8, eq7, h⟩ := bd_inv h
    refine g_callV C E.2 (rest := []) 0 (ct_X2_rented kb6 eq7) wd_3_56 mm_X2_rented ⟨rfl, by decide, by decide, by decide⟩ rfl (by decide) kb6 (by decide) rfl rfl (Nat.le_of_ble_eq_true rfl) (by decide) (dk kX5_whyNotEndLet 10 rfl) ?_
    obtain ⟨x9, ex9, h⟩ := lt_inv h
    have kj10 : G Z X 2 0 0 27 [(0, .ref (za Z a0)), (1, .int a1)] [.int x9] μ := by
      cases h
      exact g_iret C E rfl rfl (Nat.le_refl 0) (Nat.le_refl 0) (dk kX5_whyNotEndLet 15 rfl)
    clear h
    refine g_if_ne C (tgt := 26) (dk kX5_whyNotEndLet 11 rfl) (by decide) (fun c11 => ?_) (fun c11 => ?_)
    · refine g_iconst C (v := 0) (by decide) (dk kX5_whyNotEndLet 14 rfl) ?_
      exact g_nmi (by rw [ex9, if_neg c11]) kj10
    · refine g_iconst C (v := 3) (by decide) (dk kX5_whyNotEndLet 12 rfl) ?_
      refine g_goto C (tgt := 27) (dk kX5_whyNotEndLet 13 rfl) (by decide) ?_
      exact g_nmi (by rw [ex9, if_pos c11]) kj10
  · replace h := ite_t h c3
    refine g_iconst C (v := 1) (by decide) (dk kX5_whyNotEndLet 4 rfl) ?_
    cases h
    exact g_iret C E rfl rfl (Nat.le_refl 0) (Nat.le_refl 0) (dk kX5_whyNotEndLet 5 rfl)
theorem ct_X5_whyNotEndLet {l : Launch} {Z : ZZ} {μ : Mm} {a0 : Nat} {a1 : Int32} {r : Int32} (k0 : (zk Z a0).1 = 4) (h : f_X5_whyNotEndLet (zk Z) μ a0 a1 = some r) : CtM l Z false yX5_whyNotEndLet cX5_whyNotEndLet 2 (some .int) 1 0 0 [.ref (za Z a0), .int a1] μ (some (.int r)) Z μ := ct_of rfl rfl (Nat.le_of_ble_eq_true rfl) (fun X C E => t_X5_whyNotEndLet μ a0 a1 r k0 h C E)

def qX5_whyNotLabelValue : List (Nat × Instr × Nat) := [(0, .aload_n 0, 1), (1, .iload_n 1, 1), (2, .invokevirtual 94, 3), (5, .ifCond .ne 5, 3), (8, .iconst 1, 1), (9, .ireturn, 1), (10, .iload_n 2, 1), (11, .ifCond .lt 8, 3), (14, .iload_n 2, 1), (15, .iload_n 3, 1), (16, .if_icmp .lt 7, 3), (19, .iconst 2, 1), (20, .goto 4, 3), (23, .iconst 0, 1), (24, .ireturn, 1)]
theorem kX5_whyNotLabelValue : ∀ q ∈ qX5_whyNotLabelValue, decode cX5_whyNotLabelValue q.1 = .ok q.2 := by decide +kernel
def f_X5_whyNotLabelValue (K : Nat → Nat × Nat) (μ : Mm) (a0 : Nat) (a1 : Int32) (a2 : Int32) (a3 : Int32) : Option (Int32) :=
  bd (f_X5_hasLabel K μ a0 a1) fun x2 => if x2 = 0 then (some 1) else (lt1 (α := Int32) (if a2 < 0 then 2 else (if a2 < a3 then 0 else 2)) fun x4 => some x4)
set_option maxRecDepth 100000 in
set_option maxHeartbeats 4000000 in
theorem t_X5_whyNotLabelValue {l : Launch} {Z : ZZ} {X : XX} (μ : Mm) (a0 : Nat) (a1 : Int32) (a2 : Int32) (a3 : Int32) (r : Int32) (k0 : (zk Z a0).1 = 4) (h : f_X5_whyNotLabelValue (zk Z) μ a0 a1 a2 a3 = some r) (C : Cx l Z false X cX5_whyNotLabelValue RX5 4 (some .int)) (E : Ex Z X 1 0 0 (some (.int r)) Z μ) : G Z X 4 0 0 0 [(0, .ref (za Z a0)), (1, .int a1), (2, .int a2), (3, .int a3)] [] μ := by
  unfold f_X5_whyNotLabelValue at h
  refine g_aload_n C (i := 0) 0 rfl rfl (dk kX5_whyNotLabelValue 0 rfl) ?_
  refine g_iload_n C (i := 1) 1 rfl rfl (dk kX5_whyNotLabelValue 1 rfl) ?_
  obtain ⟨x2, eq1, h⟩ := bd_inv h
  refine g_callV C E.2 (rest := []) 1 (ct_X5_hasLabel k0 eq1) wd_2_131 mm_X5_hasLabel ⟨rfl, by decide, by decide, by decide⟩ rfl (by decide) k0 (by decide) rfl rfl (Nat.le_of_ble_eq_true rfl) (by decide) (dk kX5_whyNotLabelValue 2 rfl) ?_
  refine g_if_ne C (tgt := 10) (dk kX5_whyNotLabelValue 3 rfl) (by decide) (fun c3 => ?_) (fun c3 => ?_)
  · replace h := ite_f h c3
    refine g_iload_n C (i := 2) 2 rfl rfl (dk kX5_whyNotLabelValue 6 rfl) ?_
    obtain ⟨x4, ex4, h⟩ := lt_inv h
    have kj5 : G Z X 4 0 0 24 [(0, .ref (za Z a0)), (1, .int a1), (2, .int a2), (3, .int a3)] [.int x4] μ := by
      cases h
      exact g_iret C E rfl rfl (Nat.le_refl 0) (Nat.le_refl 0) (dk kX5_whyNotLabelValue 14 rfl)
    clear h
    refine g_if_lt C (tgt := 19) (dk kX5_whyNotLabelValue 7 rfl) (by decide) (fun c6 => ?_) (fun c6 => ?_)
    · refine g_iconst C (v := 2) (by decide) (dk kX5_whyNotLabelValue 11 rfl) ?_
      refine g_goto C (tgt := 24) (dk kX5_whyNotLabelValue 12 rfl) (by decide) ?_
      exact g_nmi (by rw [ex4, if_pos c6]) kj5
    · refine g_iload_n C (i := 2) 2 rfl rfl (dk kX5_whyNotLabelValue 8 rfl) ?_
      refine g_iload_n C (i := 3) 3 rfl rfl (dk kX5_whyNotLabelValue 9 rfl) ?_
      refine g_icmp_lt C (tgt := 23) (dk kX5_whyNotLabelValue 10 rfl) (by decide) (fun c7 => ?_) (fun c7 => ?_)
      · refine g_iconst C (v := 0) (by decide) (dk kX5_whyNotLabelValue 13 rfl) ?_
        exact g_nmi (by rw [ex4, if_neg c6, if_pos c7]) kj5
      · refine g_iconst C (v := 2) (by decide) (dk kX5_whyNotLabelValue 11 rfl) ?_
        refine g_goto C (tgt := 24) (dk kX5_whyNotLabelValue 12 rfl) (by decide) ?_
        exact g_nmi (by rw [ex4, if_neg c6, if_neg c7]) kj5
  · replace h := ite_t h c3
    refine g_iconst C (v := 1) (by decide) (dk kX5_whyNotLabelValue 4 rfl) ?_
    cases h
    exact g_iret C E rfl rfl (Nat.le_refl 0) (Nat.le_refl 0) (dk kX5_whyNotLabelValue 5 rfl)
theorem ct_X5_whyNotLabelValue {l : Launch} {Z : ZZ} {μ : Mm} {a0 : Nat} {a1 : Int32} {a2 : Int32} {a3 : Int32} {r : Int32} (k0 : (zk Z a0).1 = 4) (h : f_X5_whyNotLabelValue (zk Z) μ a0 a1 a2 a3 = some r) : CtM l Z false yX5_whyNotLabelValue cX5_whyNotLabelValue 4 (some .int) 1 0 0 [.ref (za Z a0), .int a1, .int a2, .int a3] μ (some (.int r)) Z μ := ct_of rfl rfl (Nat.le_of_ble_eq_true rfl) (fun X C E => t_X5_whyNotLabelValue μ a0 a1 a2 a3 r k0 h C E)
end
