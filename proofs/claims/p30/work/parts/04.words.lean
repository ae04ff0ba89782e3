/-! the words of the tables that the rows use, each by its place -/
theorem nf_0 {l : Launch} {Z : ZZ} {ex : Bool} {X : XX} {cc : ByteArray} {nL : Nat} {ret : Option FieldType} (C : Cx l Z ex X cc RX7 nL ret) : (Cond.fieldLinkNest RX7 141 RX1 "length" "I" "WornDots").before (xa X) (xs X) = true := va_Nw.use rfl (C.nw.1 ("WornDots", 141, "WornDots$CommandText", "length", "I", "WornDots") (List.mem_of_getElem? (i := 0) rfl))
theorem nf_1 {l : Launch} {Z : ZZ} {ex : Bool} {X : XX} {cc : ByteArray} {nL : Nat} {ret : Option FieldType} (C : Cx l Z ex X cc RX5 nL ret) : (Cond.fieldLinkNest RX5 68 RX3 "dots" "I" "WornDots").before (xa X) (xs X) = true := va_Nw.use rfl (C.nw.1 ("WornDots$State", 68, "WornDots$Head", "dots", "I", "WornDots") (List.mem_of_getElem? (i := 1) rfl))
theorem nf_2 {l : Launch} {Z : ZZ} {ex : Bool} {X : XX} {cc : ByteArray} {nL : Nat} {ret : Option FieldType} (C : Cx l Z ex X cc RX5 nL ret) : (Cond.fieldLinkNest RX5 194 RX3 "burntInAll" "I" "WornDots").before (xa X) (xs X) = true := va_Nw.use rfl (C.nw.1 ("WornDots$State", 194, "WornDots$Head", "burntInAll", "I", "WornDots") (List.mem_of_getElem? (i := 2) rfl))
theorem nf_3 {l : Launch} {Z : ZZ} {ex : Bool} {X : XX} {cc : ByteArray} {nL : Nat} {ret : Option FieldType} (C : Cx l Z ex X cc RX5 nL ret) : (Cond.fieldLinkNest RX5 180 RX3 "heat" "[I" "WornDots").before (xa X) (xs X) = true := va_Nw.use rfl (C.nw.1 ("WornDots$State", 180, "WornDots$Head", "heat", "[I", "WornDots") (List.mem_of_getElem? (i := 3) rfl))
theorem nf_4 {l : Launch} {Z : ZZ} {ex : Bool} {X : XX} {cc : ByteArray} {nL : Nat} {ret : Option FieldType} (C : Cx l Z ex X cc RX5 nL ret) : (Cond.fieldLinkNest RX5 107 RX3 "wear" "[I" "WornDots").before (xa X) (xs X) = true := va_Nw.use rfl (C.nw.1 ("WornDots$State", 107, "WornDots$Head", "wear", "[I", "WornDots") (List.mem_of_getElem? (i := 4) rfl))
theorem nf_5 {l : Launch} {Z : ZZ} {ex : Bool} {X : XX} {cc : ByteArray} {nL : Nat} {ret : Option FieldType} (C : Cx l Z ex X cc RX5 nL ret) : (Cond.fieldLinkNest RX5 187 RX3 "burnt" "[I" "WornDots").before (xa X) (xs X) = true := va_Nw.use rfl (C.nw.1 ("WornDots$State", 187, "WornDots$Head", "burnt", "[I", "WornDots") (List.mem_of_getElem? (i := 5) rfl))
theorem nf_6 {l : Launch} {Z : ZZ} {ex : Bool} {X : XX} {cc : ByteArray} {nL : Nat} {ret : Option FieldType} (C : Cx l Z ex X cc RX5 nL ret) : (Cond.fieldLinkNest RX5 37 "WornDots" "FIRST_SETTING" "[I" "WornDots").before (xa X) (xs X) = true := va_Nw.use rfl (C.nw.1 ("WornDots$State", 37, "WornDots", "FIRST_SETTING", "[I", "WornDots") (List.mem_of_getElem? (i := 6) rfl))
theorem nf_7 {l : Launch} {Z : ZZ} {ex : Bool} {X : XX} {cc : ByteArray} {nL : Nat} {ret : Option FieldType} (C : Cx l Z ex X cc RX5 nL ret) : (Cond.fieldLinkNest RX5 88 RX4 "width" "I" "WornDots").before (xa X) (xs X) = true := va_Nw.use rfl (C.nw.1 ("WornDots$State", 88, "WornDots$Label", "width", "I", "WornDots") (List.mem_of_getElem? (i := 7) rfl))
theorem nf_8 {l : Launch} {Z : ZZ} {ex : Bool} {X : XX} {cc : ByteArray} {nL : Nat} {ret : Option FieldType} (C : Cx l Z ex X cc RX3 nL ret) : (Cond.fieldLinkNest RX3 38 RX4 "width" "I" "WornDots").before (xa X) (xs X) = true := va_Nw.use rfl (C.nw.1 ("WornDots$Head", 38, "WornDots$Label", "width", "I", "WornDots") (List.mem_of_getElem? (i := 8) rfl))
theorem nf_9 {l : Launch} {Z : ZZ} {ex : Bool} {X : XX} {cc : ByteArray} {nL : Nat} {ret : Option FieldType} (C : Cx l Z ex X cc RX5 nL ret) : (Cond.fieldLinkNest RX5 91 RX4 "blackness" "I" "WornDots").before (xa X) (xs X) = true := va_Nw.use rfl (C.nw.1 ("WornDots$State", 91, "WornDots$Label", "blackness", "I", "WornDots") (List.mem_of_getElem? (i := 9) rfl))
theorem nf_10 {l : Launch} {Z : ZZ} {ex : Bool} {X : XX} {cc : ByteArray} {nL : Nat} {ret : Option FieldType} (C : Cx l Z ex X cc RX3 nL ret) : (Cond.fieldLinkNest RX3 50 RX4 "blackness" "I" "WornDots").before (xa X) (xs X) = true := va_Nw.use rfl (C.nw.1 ("WornDots$Head", 50, "WornDots$Label", "blackness", "I", "WornDots") (List.mem_of_getElem? (i := 10) rfl))
theorem nf_11 {l : Launch} {Z : ZZ} {ex : Bool} {X : XX} {cc : ByteArray} {nL : Nat} {ret : Option FieldType} (C : Cx l Z ex X cc RX5 nL ret) : (Cond.fieldLinkNest RX5 162 RX4 "printed" "I" "WornDots").before (xa X) (xs X) = true := va_Nw.use rfl (C.nw.1 ("WornDots$State", 162, "WornDots$Label", "printed", "I", "WornDots") (List.mem_of_getElem? (i := 11) rfl))
theorem nf_12 {l : Launch} {Z : ZZ} {ex : Bool} {X : XX} {cc : ByteArray} {nL : Nat} {ret : Option FieldType} (C : Cx l Z ex X cc RX5 nL ret) : (Cond.fieldLinkNest RX5 169 RX4 "failed" "I" "WornDots").before (xa X) (xs X) = true := va_Nw.use rfl (C.nw.1 ("WornDots$State", 169, "WornDots$Label", "failed", "I", "WornDots") (List.mem_of_getElem? (i := 12) rfl))
theorem nf_13 {l : Launch} {Z : ZZ} {ex : Bool} {X : XX} {cc : ByteArray} {nL : Nat} {ret : Option FieldType} (C : Cx l Z ex X cc RX3 nL ret) : (Cond.fieldLinkNest RX3 43 RX4 "rows" "[I" "WornDots").before (xa X) (xs X) = true := va_Nw.use rfl (C.nw.1 ("WornDots$Head", 43, "WornDots$Label", "rows", "[I", "WornDots") (List.mem_of_getElem? (i := 13) rfl))
theorem nf_14 {l : Launch} {Z : ZZ} {ex : Bool} {X : XX} {cc : ByteArray} {nL : Nat} {ret : Option FieldType} (C : Cx l Z ex X cc RX5 nL ret) : (Cond.fieldLinkNest RX5 101 RX4 "rows" "[I" "WornDots").before (xa X) (xs X) = true := va_Nw.use rfl (C.nw.1 ("WornDots$State", 101, "WornDots$Label", "rows", "[I", "WornDots") (List.mem_of_getElem? (i := 14) rfl))
theorem nf_15 {l : Launch} {Z : ZZ} {ex : Bool} {X : XX} {cc : ByteArray} {nL : Nat} {ret : Option FieldType} (C : Cx l Z ex X cc RX7 nL ret) : (Cond.fieldLinkNest RX7 127 RX4 "rows" "[I" "WornDots").before (xa X) (xs X) = true := va_Nw.use rfl (C.nw.1 ("WornDots", 127, "WornDots$Label", "rows", "[I", "WornDots") (List.mem_of_getElem? (i := 15) rfl))
theorem nf_16 {l : Launch} {Z : ZZ} {ex : Bool} {X : XX} {cc : ByteArray} {nL : Nat} {ret : Option FieldType} (C : Cx l Z ex X cc RX5 nL ret) : (Cond.fieldLinkNest RX5 126 RX2 "first" "I" "WornDots").before (xa X) (xs X) = true := va_Nw.use rfl (C.nw.1 ("WornDots$State", 126, "WornDots$Customer", "first", "I", "WornDots") (List.mem_of_getElem? (i := 16) rfl))
theorem nf_17 {l : Launch} {Z : ZZ} {ex : Bool} {X : XX} {cc : ByteArray} {nL : Nat} {ret : Option FieldType} (C : Cx l Z ex X cc RX5 nL ret) : (Cond.fieldLinkNest RX5 129 RX2 "last" "I" "WornDots").before (xa X) (xs X) = true := va_Nw.use rfl (C.nw.1 ("WornDots$State", 129, "WornDots$Customer", "last", "I", "WornDots") (List.mem_of_getElem? (i := 17) rfl))
theorem nf_18 {l : Launch} {Z : ZZ} {ex : Bool} {X : XX} {cc : ByteArray} {nL : Nat} {ret : Option FieldType} (C : Cx l Z ex X cc RX5 nL ret) : (Cond.fieldLinkNest RX5 156 RX2 "paid" "I" "WornDots").before (xa X) (xs X) = true := va_Nw.use rfl (C.nw.1 ("WornDots$State", 156, "WornDots$Customer", "paid", "I", "WornDots") (List.mem_of_getElem? (i := 18) rfl))
theorem nf_19 {l : Launch} {Z : ZZ} {ex : Bool} {X : XX} {cc : ByteArray} {nL : Nat} {ret : Option FieldType} (C : Cx l Z ex X cc RX5 nL ret) : (Cond.fieldLinkNest RX5 163 RX2 "paidBack" "I" "WornDots").before (xa X) (xs X) = true := va_Nw.use rfl (C.nw.1 ("WornDots$State", 163, "WornDots$Customer", "paidBack", "I", "WornDots") (List.mem_of_getElem? (i := 19) rfl))
theorem nf_20 {l : Launch} {Z : ZZ} {ex : Bool} {X : XX} {cc : ByteArray} {nL : Nat} {ret : Option FieldType} (C : Cx l Z ex X cc RX5 nL ret) : (Cond.fieldLinkNest RX5 159 RX2 "printed" "I" "WornDots").before (xa X) (xs X) = true := va_Nw.use rfl (C.nw.1 ("WornDots$State", 159, "WornDots$Customer", "printed", "I", "WornDots") (List.mem_of_getElem? (i := 20) rfl))
theorem nf_21 {l : Launch} {Z : ZZ} {ex : Bool} {X : XX} {cc : ByteArray} {nL : Nat} {ret : Option FieldType} (C : Cx l Z ex X cc RX5 nL ret) : (Cond.fieldLinkNest RX5 166 RX2 "failed" "I" "WornDots").before (xa X) (xs X) = true := va_Nw.use rfl (C.nw.1 ("WornDots$State", 166, "WornDots$Customer", "failed", "I", "WornDots") (List.mem_of_getElem? (i := 21) rfl))
theorem nf_22 {l : Launch} {Z : ZZ} {ex : Bool} {X : XX} {cc : ByteArray} {nL : Nat} {ret : Option FieldType} (C : Cx l Z ex X cc RX7 nL ret) : (Cond.fieldLinkNest RX7 169 RX5 "head" "LWornDots$Head;" "WornDots").before (xa X) (xs X) = true := va_Nw.use rfl (C.nw.1 ("WornDots", 169, "WornDots$State", "head", "LWornDots$Head;", "WornDots") (List.mem_of_getElem? (i := 22) rfl))
theorem nf_23 {l : Launch} {Z : ZZ} {ex : Bool} {X : XX} {cc : ByteArray} {nL : Nat} {ret : Option FieldType} (C : Cx l Z ex X cc RX7 nL ret) : (Cond.fieldLinkNest RX7 118 RX5 "labels" "[LWornDots$Label;" "WornDots").before (xa X) (xs X) = true := va_Nw.use rfl (C.nw.1 ("WornDots", 118, "WornDots$State", "labels", "[LWornDots$Label;", "WornDots") (List.mem_of_getElem? (i := 23) rfl))
theorem nf_24 {l : Launch} {Z : ZZ} {ex : Bool} {X : XX} {cc : ByteArray} {nL : Nat} {ret : Option FieldType} (C : Cx l Z ex X cc RX7 nL ret) : (Cond.fieldLinkNest RX7 134 RX5 "customers" "[LWornDots$Customer;" "WornDots").before (xa X) (xs X) = true := va_Nw.use rfl (C.nw.1 ("WornDots", 134, "WornDots$State", "customers", "[LWornDots$Customer;", "WornDots") (List.mem_of_getElem? (i := 24) rfl))
theorem nf_25 {l : Launch} {Z : ZZ} {ex : Bool} {X : XX} {cc : ByteArray} {nL : Nat} {ret : Option FieldType} (C : Cx l Z ex X cc RX5 nL ret) : (Cond.fieldLinkNest RX5 82 "WornDots" "LOWEST_SETTING" "[I" "WornDots").before (xa X) (xs X) = true := va_Nw.use rfl (C.nw.1 ("WornDots$State", 82, "WornDots", "LOWEST_SETTING", "[I", "WornDots") (List.mem_of_getElem? (i := 25) rfl))
theorem nf_26 {l : Launch} {Z : ZZ} {ex : Bool} {X : XX} {cc : ByteArray} {nL : Nat} {ret : Option FieldType} (C : Cx l Z ex X cc RX5 nL ret) : (Cond.fieldLinkNest RX5 85 "WornDots" "HIGHEST_SETTING" "[I" "WornDots").before (xa X) (xs X) = true := va_Nw.use rfl (C.nw.1 ("WornDots$State", 85, "WornDots", "HIGHEST_SETTING", "[I", "WornDots") (List.mem_of_getElem? (i := 26) rfl))
set_option maxRecDepth 100000 in
theorem wd_1_1 : Cond.initialized RX7 ∈ TB := tb1 (List.mem_of_getElem? (i := 1) rfl) rfl
set_option maxRecDepth 100000 in
theorem wd_1_2 : Cond.initialized RX1 ∈ TB := tb1 (List.mem_of_getElem? (i := 2) rfl) rfl
set_option maxRecDepth 100000 in
theorem wd_1_5 : Cond.initialized RX3 ∈ TB := tb1 (List.mem_of_getElem? (i := 5) rfl) rfl
set_option maxRecDepth 100000 in
theorem wd_1_6 : Cond.initialized RX5 ∈ TB := tb1 (List.mem_of_getElem? (i := 6) rfl) rfl
set_option maxRecDepth 100000 in
theorem wd_1_7 : Cond.initialized "java/lang/System" ∈ TB := tb1 (List.mem_of_getElem? (i := 7) rfl) rfl
set_option maxRecDepth 100000 in
theorem wd_1_8 : Cond.initialized RX4 ∈ TB := tb1 (List.mem_of_getElem? (i := 8) rfl) rfl
set_option maxRecDepth 100000 in
theorem wd_1_9 : Cond.initialized RX2 ∈ TB := tb1 (List.mem_of_getElem? (i := 9) rfl) rfl
set_option maxRecDepth 100000 in
theorem wd_1_13 : Cond.initialized "java/lang/IndexOutOfBoundsException" ∈ TB := tb1 (List.mem_of_getElem? (i := 13) rfl) rfl
set_option maxRecDepth 100000 in
theorem wd_1_14 : Cond.initialized "java/lang/IllegalArgumentException" ∈ TB := tb1 (List.mem_of_getElem? (i := 14) rfl) rfl
set_option maxRecDepth 100000 in
theorem wd_1_15 : Cond.initialized "java/lang/IllegalStateException" ∈ TB := tb1 (List.mem_of_getElem? (i := 15) rfl) rfl
set_option maxRecDepth 100000 in
theorem wd_1_16 : Cond.initialized RJ6 ∈ TB := tb1 (List.mem_of_getElem? (i := 16) rfl) rfl
set_option maxRecDepth 100000 in
theorem wd_1_17 : Cond.initialized "java/lang/Math" ∈ TB := tb1 (List.mem_of_getElem? (i := 17) rfl) rfl
set_option maxRecDepth 100000 in
theorem wd_1_23 : Cond.methodLink RX7 1 Lib.objectInit ∈ TB := tb1 (List.mem_of_getElem? (i := 23) rfl) rfl
set_option maxRecDepth 100000 in
theorem wd_1_24 : Cond.instanceMethod Lib.objectInit ∈ TB := tb1 (List.mem_of_getElem? (i := 24) rfl) rfl
set_option maxRecDepth 100000 in
theorem wd_1_25 : Cond.code Lib.objectInit ⟨#[0xb1]⟩ 1 none ∈ TB := tb1 (List.mem_of_getElem? (i := 25) rfl) rfl
set_option maxRecDepth 100000 in
theorem wd_1_26 : Cond.classLink RX7 7 RX1 ∈ TB := tb1 (List.mem_of_getElem? (i := 26) rfl) rfl
set_option maxRecDepth 100000 in
theorem wd_1_27 : Cond.instantiable RX1 6 ∈ TB := tb1 (List.mem_of_getElem? (i := 27) rfl) rfl
set_option maxRecDepth 100000 in
theorem wd_1_29 : Cond.instanceMethod yX1_init ∈ TB := tb1 (List.mem_of_getElem? (i := 29) rfl) rfl
set_option maxRecDepth 100000 in
theorem wd_1_30 : Cond.code yX1_init cX1_init 1 none ∈ TB := tb1 (List.mem_of_getElem? (i := 30) rfl) rfl
set_option maxRecDepth 100000 in
theorem wd_1_31 : Cond.methodLink RX1 3 Lib.objectInit ∈ TB := tb1 (List.mem_of_getElem? (i := 31) rfl) rfl
set_option maxRecDepth 100000 in
theorem wd_1_32 : Cond.fieldLink RX1 19 "WornDots$Word" "HEAD" "LWornDots$Word;" ∈ TB := tb1 (List.mem_of_getElem? (i := 32) rfl) rfl
set_option maxRecDepth 100000 in
theorem wd_1_34 : Cond.fieldLink RX1 9 RX1 "bytes" "[C" ∈ TB := tb1 (List.mem_of_getElem? (i := 34) rfl) rfl
set_option maxRecDepth 100000 in
theorem wd_1_36 : Cond.fieldLink RX1 15 RX1 "fault" "I" ∈ TB := tb1 (List.mem_of_getElem? (i := 36) rfl) rfl
set_option maxRecDepth 100000 in
theorem wd_1_37 : Cond.fieldLink RX1 25 RX1 "word" "LWornDots$Word;" ∈ TB := tb1 (List.mem_of_getElem? (i := 37) rfl) rfl
set_option maxRecDepth 100000 in
theorem wd_1_38 : Cond.fieldLink RX1 28 RX1 "numbers" "[I" ∈ TB := tb1 (List.mem_of_getElem? (i := 38) rfl) rfl
set_option maxRecDepth 100000 in
theorem wd_1_52 : Cond.arrayClass .char ∈ TB := tb1 (List.mem_of_getElem? (i := 52) rfl) rfl
set_option maxRecDepth 100000 in
theorem wd_1_53 : Cond.arrayClass .int ∈ TB := tb1 (List.mem_of_getElem? (i := 53) rfl) rfl
set_option maxRecDepth 100000 in
theorem wd_1_54 : Cond.classLink RX7 16 RX5 ∈ TB := tb1 (List.mem_of_getElem? (i := 54) rfl) rfl
set_option maxRecDepth 100000 in
theorem wd_1_56 : Cond.classLink RX7 22 RX3 ∈ TB := tb1 (List.mem_of_getElem? (i := 56) rfl) rfl
set_option maxRecDepth 100000 in
theorem wd_1_57 : Cond.instantiable RX3 5 ∈ TB := tb1 (List.mem_of_getElem? (i := 57) rfl) rfl
set_option maxRecDepth 100000 in
theorem wd_1_59 : Cond.instanceMethod yX3_init ∈ TB := tb1 (List.mem_of_getElem? (i := 59) rfl) rfl
set_option maxRecDepth 100000 in
theorem wd_1_60 : Cond.code yX3_init cX3_init 1 none ∈ TB := tb1 (List.mem_of_getElem? (i := 60) rfl) rfl
set_option maxRecDepth 100000 in
theorem wd_1_61 : Cond.methodLink RX3 3 Lib.objectInit ∈ TB := tb1 (List.mem_of_getElem? (i := 61) rfl) rfl
set_option maxRecDepth 100000 in
theorem wd_1_62 : Cond.fieldLink RX3 9 RX3 "dots" "I" ∈ TB := tb1 (List.mem_of_getElem? (i := 62) rfl) rfl
set_option maxRecDepth 100000 in
theorem wd_1_64 : Cond.fieldLink RX3 25 RX3 "burntInAll" "I" ∈ TB := tb1 (List.mem_of_getElem? (i := 64) rfl) rfl
set_option maxRecDepth 100000 in
theorem wd_1_66 : Cond.fieldLink RX3 15 RX3 "heat" "[I" ∈ TB := tb1 (List.mem_of_getElem? (i := 66) rfl) rfl
set_option maxRecDepth 100000 in
theorem wd_1_68 : Cond.fieldLink RX3 19 RX3 "wear" "[I" ∈ TB := tb1 (List.mem_of_getElem? (i := 68) rfl) rfl
set_option maxRecDepth 100000 in
theorem wd_1_70 : Cond.fieldLink RX3 22 RX3 "burnt" "[I" ∈ TB := tb1 (List.mem_of_getElem? (i := 70) rfl) rfl
set_option maxRecDepth 100000 in
theorem wd_1_83 : Cond.instantiable RX5 8 ∈ TB := tb1 (List.mem_of_getElem? (i := 83) rfl) rfl
set_option maxRecDepth 100000 in
theorem wd_1_84 : Cond.methodLink RX7 25 yX5_init ∈ TB := tb1 (List.mem_of_getElem? (i := 84) rfl) rfl
set_option maxRecDepth 100000 in
theorem wd_1_85 : Cond.instanceMethod yX5_init ∈ TB := tb1 (List.mem_of_getElem? (i := 85) rfl) rfl
set_option maxRecDepth 100000 in
theorem wd_1_86 : Cond.code yX5_init cX5_init 3 none ∈ TB := tb1 (List.mem_of_getElem? (i := 86) rfl) rfl
set_option maxRecDepth 100000 in
theorem wd_1_87 : Cond.methodLink RX5 3 Lib.objectInit ∈ TB := tb1 (List.mem_of_getElem? (i := 87) rfl) rfl
set_option maxRecDepth 100000 in
theorem wd_1_88 : Cond.classLink RX5 9 RX3 ∈ TB := tb1 (List.mem_of_getElem? (i := 88) rfl) rfl
set_option maxRecDepth 100000 in
theorem wd_1_90 : Cond.classLink RX5 22 RX4 ∈ TB := tb1 (List.mem_of_getElem? (i := 90) rfl) rfl
set_option maxRecDepth 100000 in
theorem wd_1_92 : Cond.classLink RX5 28 RX2 ∈ TB := tb1 (List.mem_of_getElem? (i := 92) rfl) rfl
set_option maxRecDepth 100000 in
theorem wd_1_96 : Cond.methodLink RX5 40 arraycopyName ∈ TB := tb1 (List.mem_of_getElem? (i := 96) rfl) rfl
set_option maxRecDepth 100000 in
theorem wd_1_97 : Cond.static arraycopyName ∈ TB := tb1 (List.mem_of_getElem? (i := 97) rfl) rfl
set_option maxRecDepth 100000 in
theorem wd_1_98 : Cond.native arraycopyName ∈ TB := tb1 (List.mem_of_getElem? (i := 98) rfl) rfl
set_option maxRecDepth 100000 in
theorem wd_1_99 : Cond.instantiable RX4 5 ∈ TB := tb1 (List.mem_of_getElem? (i := 99) rfl) rfl
set_option maxRecDepth 100000 in
theorem wd_1_101 : Cond.instanceMethod yX4_init ∈ TB := tb1 (List.mem_of_getElem? (i := 101) rfl) rfl
set_option maxRecDepth 100000 in
theorem wd_1_102 : Cond.code yX4_init cX4_init 1 none ∈ TB := tb1 (List.mem_of_getElem? (i := 102) rfl) rfl
set_option maxRecDepth 100000 in
theorem wd_1_103 : Cond.methodLink RX4 3 Lib.objectInit ∈ TB := tb1 (List.mem_of_getElem? (i := 103) rfl) rfl
set_option maxRecDepth 100000 in
theorem wd_1_104 : Cond.fieldLink RX4 9 RX4 "width" "I" ∈ TB := tb1 (List.mem_of_getElem? (i := 104) rfl) rfl
set_option maxRecDepth 100000 in
theorem wd_1_107 : Cond.fieldLink RX4 15 RX4 "blackness" "I" ∈ TB := tb1 (List.mem_of_getElem? (i := 107) rfl) rfl
set_option maxRecDepth 100000 in
theorem wd_1_110 : Cond.fieldLink RX4 22 RX4 "printed" "I" ∈ TB := tb1 (List.mem_of_getElem? (i := 110) rfl) rfl
set_option maxRecDepth 100000 in
theorem wd_1_112 : Cond.fieldLink RX4 25 RX4 "failed" "I" ∈ TB := tb1 (List.mem_of_getElem? (i := 112) rfl) rfl
set_option maxRecDepth 100000 in
theorem wd_1_114 : Cond.fieldLink RX4 18 RX4 "rows" "[I" ∈ TB := tb1 (List.mem_of_getElem? (i := 114) rfl) rfl
set_option maxRecDepth 100000 in
theorem wd_1_129 : Cond.instantiable RX2 6 ∈ TB := tb1 (List.mem_of_getElem? (i := 129) rfl) rfl
set_option maxRecDepth 100000 in
theorem wd_1_131 : Cond.instanceMethod yX2_init ∈ TB := tb1 (List.mem_of_getElem? (i := 131) rfl) rfl
set_option maxRecDepth 100000 in
theorem wd_1_132 : Cond.code yX2_init cX2_init 1 none ∈ TB := tb1 (List.mem_of_getElem? (i := 132) rfl) rfl
set_option maxRecDepth 100000 in
theorem wd_1_133 : Cond.methodLink RX2 3 Lib.objectInit ∈ TB := tb1 (List.mem_of_getElem? (i := 133) rfl) rfl
set_option maxRecDepth 100000 in
theorem wd_1_134 : Cond.fieldLink RX2 9 RX2 "first" "I" ∈ TB := tb1 (List.mem_of_getElem? (i := 134) rfl) rfl
set_option maxRecDepth 100000 in
theorem wd_1_136 : Cond.fieldLink RX2 15 RX2 "last" "I" ∈ TB := tb1 (List.mem_of_getElem? (i := 136) rfl) rfl
set_option maxRecDepth 100000 in
theorem wd_1_138 : Cond.fieldLink RX2 18 RX2 "paid" "I" ∈ TB := tb1 (List.mem_of_getElem? (i := 138) rfl) rfl
set_option maxRecDepth 100000 in
theorem wd_1_140 : Cond.fieldLink RX2 21 RX2 "paidBack" "I" ∈ TB := tb1 (List.mem_of_getElem? (i := 140) rfl) rfl
set_option maxRecDepth 100000 in
theorem wd_1_142 : Cond.fieldLink RX2 24 RX2 "printed" "I" ∈ TB := tb1 (List.mem_of_getElem? (i := 142) rfl) rfl
set_option maxRecDepth 100000 in
theorem wd_1_144 : Cond.fieldLink RX2 27 RX2 "failed" "I" ∈ TB := tb1 (List.mem_of_getElem? (i := 144) rfl) rfl
set_option maxRecDepth 100000 in
theorem wd_1_159 : Cond.fieldLink RX5 12 RX5 "head" "LWornDots$Head;" ∈ TB := tb1 (List.mem_of_getElem? (i := 159) rfl) rfl
set_option maxRecDepth 100000 in
theorem wd_1_161 : Cond.fieldLink RX5 34 RX5 "trial" "LWornDots$Head;" ∈ TB := tb1 (List.mem_of_getElem? (i := 161) rfl) rfl
set_option maxRecDepth 100000 in
theorem wd_1_162 : Cond.fieldLink RX5 18 RX5 "settings" "[I" ∈ TB := tb1 (List.mem_of_getElem? (i := 162) rfl) rfl
set_option maxRecDepth 100000 in
theorem wd_1_163 : Cond.fieldLink RX5 24 RX5 "labels" "[LWornDots$Label;" ∈ TB := tb1 (List.mem_of_getElem? (i := 163) rfl) rfl
set_option maxRecDepth 100000 in
theorem wd_1_165 : Cond.fieldLink RX5 55 RX5 "labelCount" "I" ∈ TB := tb1 (List.mem_of_getElem? (i := 165) rfl) rfl
set_option maxRecDepth 100000 in
theorem wd_1_166 : Cond.fieldLink RX5 30 RX5 "customers" "[LWornDots$Customer;" ∈ TB := tb1 (List.mem_of_getElem? (i := 166) rfl) rfl
set_option maxRecDepth 100000 in
theorem wd_1_168 : Cond.fieldLink RX5 62 RX5 "customerCount" "I" ∈ TB := tb1 (List.mem_of_getElem? (i := 168) rfl) rfl
set_option maxRecDepth 100000 in
theorem wd_1_169 : Cond.fieldLink RX5 65 RX5 "lines" "I" ∈ TB := tb1 (List.mem_of_getElem? (i := 169) rfl) rfl
set_option maxRecDepth 100000 in
theorem wd_1_187 : Cond.fieldLink RX7 10 RX7 "text" "LWornDots$CommandText;" ∈ TB := tb1 (List.mem_of_getElem? (i := 187) rfl) rfl
set_option maxRecDepth 100000 in
theorem wd_1_188 : Cond.fieldLink RX7 18 RX7 "saved" "[LWornDots$State;" ∈ TB := tb1 (List.mem_of_getElem? (i := 188) rfl) rfl
set_option maxRecDepth 100000 in
theorem wd_1_189 : Cond.fieldLink RX7 209 RX7 "savedCount" "I" ∈ TB := tb1 (List.mem_of_getElem? (i := 189) rfl) rfl
set_option maxRecDepth 100000 in
theorem wd_1_190 : Cond.fieldLink RX7 28 RX7 "now" "LWornDots$State;" ∈ TB := tb1 (List.mem_of_getElem? (i := 190) rfl) rfl
set_option maxRecDepth 100000 in
theorem wd_1_214 : Cond.codeWith yL_begins cL_begins 3 (some .int) [(0, 5, 6, 15)] ∈ TB := tb1 (List.mem_of_getElem? (i := 214) rfl) rfl
set_option maxRecDepth 100000 in
theorem wd_1_215 : Cond.classLink RL 15 "java/lang/IllegalArgumentException" ∈ TB := tb1 (List.mem_of_getElem? (i := 215) rfl) rfl
set_option maxRecDepth 100000 in
theorem wd_1_216 : Cond.methodLink RL 9 yX7_begin ∈ TB := tb1 (List.mem_of_getElem? (i := 216) rfl) rfl
set_option maxRecDepth 100000 in
theorem wd_1_217 : Cond.instanceMethod yX7_begin ∈ TB := tb1 (List.mem_of_getElem? (i := 217) rfl) rfl
set_option maxRecDepth 100000 in
theorem wd_1_218 : Cond.selects RX7 yX7_begin yX7_begin ∈ TB := tb1 (List.mem_of_getElem? (i := 218) rfl) rfl
set_option maxRecDepth 100000 in
theorem wd_1_219 : Cond.code yX7_begin cX7_begin 2 (some .int) ∈ TB := tb1 (List.mem_of_getElem? (i := 219) rfl) rfl
set_option maxRecDepth 100000 in
theorem wd_1_220 : Cond.methodLink RX7 32 yX5_whyNotNewHead ∈ TB := tb1 (List.mem_of_getElem? (i := 220) rfl) rfl
set_option maxRecDepth 100000 in
theorem wd_1_221 : Cond.instanceMethod yX5_whyNotNewHead ∈ TB := tb1 (List.mem_of_getElem? (i := 221) rfl) rfl
set_option maxRecDepth 100000 in
theorem wd_1_222 : Cond.selects RX5 yX5_whyNotNewHead yX5_whyNotNewHead ∈ TB := tb1 (List.mem_of_getElem? (i := 222) rfl) rfl
set_option maxRecDepth 100000 in
theorem wd_1_223 : Cond.code yX5_whyNotNewHead cX5_whyNotNewHead 2 (some .int) ∈ TB := tb1 (List.mem_of_getElem? (i := 223) rfl) rfl
set_option maxRecDepth 100000 in
theorem wd_1_224 : Cond.methodLink RX7 36 yX7_refuse ∈ TB := tb1 (List.mem_of_getElem? (i := 224) rfl) rfl
set_option maxRecDepth 100000 in
theorem wd_1_225 : Cond.static yX7_refuse ∈ TB := tb1 (List.mem_of_getElem? (i := 225) rfl) rfl
set_option maxRecDepth 100000 in
theorem wd_1_226 : Cond.code yX7_refuse cX7_refuse 1 none ∈ TB := tb1 (List.mem_of_getElem? (i := 226) rfl) rfl
set_option maxRecDepth 100000 in
theorem wd_1_227 : Cond.classLink RX7 249 "java/lang/IndexOutOfBoundsException" ∈ TB := tb1 (List.mem_of_getElem? (i := 227) rfl) rfl
set_option maxRecDepth 100000 in
theorem wd_2_55 : Cond.classLink RX7 256 "java/lang/IllegalArgumentException" ∈ TB := tb2 (List.mem_of_getElem? (i := 55) rfl) rfl
set_option maxRecDepth 100000 in
theorem wd_2_71 : Cond.classLink RX7 261 "java/lang/IllegalStateException" ∈ TB := tb2 (List.mem_of_getElem? (i := 71) rfl) rfl
set_option maxRecDepth 100000 in
theorem wd_2_87 : Cond.methodLink RX7 40 yX7_save ∈ TB := tb2 (List.mem_of_getElem? (i := 87) rfl) rfl
set_option maxRecDepth 100000 in
theorem wd_2_89 : Cond.instanceMethod yX7_save ∈ TB := tb2 (List.mem_of_getElem? (i := 89) rfl) rfl
set_option maxRecDepth 100000 in
theorem wd_2_90 : Cond.code yX7_save cX7_save 3 none ∈ TB := tb2 (List.mem_of_getElem? (i := 90) rfl) rfl
set_option maxRecDepth 100000 in
theorem wd_2_91 : Cond.methodLink RX7 212 yX5_takeOver ∈ TB := tb2 (List.mem_of_getElem? (i := 91) rfl) rfl
set_option maxRecDepth 100000 in
theorem wd_2_92 : Cond.instanceMethod yX5_takeOver ∈ TB := tb2 (List.mem_of_getElem? (i := 92) rfl) rfl
set_option maxRecDepth 100000 in
theorem wd_2_93 : Cond.selects RX5 yX5_takeOver yX5_takeOver ∈ TB := tb2 (List.mem_of_getElem? (i := 93) rfl) rfl
set_option maxRecDepth 100000 in
theorem wd_2_94 : Cond.code yX5_takeOver cX5_takeOver 3 none ∈ TB := tb2 (List.mem_of_getElem? (i := 94) rfl) rfl
set_option maxRecDepth 100000 in
theorem wd_2_95 : Cond.methodLink RX5 48 yX3_takeOver ∈ TB := tb2 (List.mem_of_getElem? (i := 95) rfl) rfl
set_option maxRecDepth 100000 in
theorem wd_2_96 : Cond.instanceMethod yX3_takeOver ∈ TB := tb2 (List.mem_of_getElem? (i := 96) rfl) rfl
set_option maxRecDepth 100000 in
theorem wd_2_97 : Cond.selects RX3 yX3_takeOver yX3_takeOver ∈ TB := tb2 (List.mem_of_getElem? (i := 97) rfl) rfl
set_option maxRecDepth 100000 in
theorem wd_2_98 : Cond.code yX3_takeOver cX3_takeOver 2 none ∈ TB := tb2 (List.mem_of_getElem? (i := 98) rfl) rfl
set_option maxRecDepth 100000 in
theorem wd_2_99 : Cond.methodLink RX3 28 arraycopyName ∈ TB := tb2 (List.mem_of_getElem? (i := 99) rfl) rfl
set_option maxRecDepth 100000 in
theorem wd_2_100 : Cond.methodLink RX5 52 yX4_takeOver ∈ TB := tb2 (List.mem_of_getElem? (i := 100) rfl) rfl
set_option maxRecDepth 100000 in
theorem wd_2_101 : Cond.instanceMethod yX4_takeOver ∈ TB := tb2 (List.mem_of_getElem? (i := 101) rfl) rfl
set_option maxRecDepth 100000 in
theorem wd_2_102 : Cond.selects RX4 yX4_takeOver yX4_takeOver ∈ TB := tb2 (List.mem_of_getElem? (i := 102) rfl) rfl
set_option maxRecDepth 100000 in
theorem wd_2_103 : Cond.code yX4_takeOver cX4_takeOver 2 none ∈ TB := tb2 (List.mem_of_getElem? (i := 103) rfl) rfl
set_option maxRecDepth 100000 in
theorem wd_2_104 : Cond.methodLink RX4 28 arraycopyName ∈ TB := tb2 (List.mem_of_getElem? (i := 104) rfl) rfl
set_option maxRecDepth 100000 in
theorem wd_2_105 : Cond.methodLink RX5 59 yX2_takeOver ∈ TB := tb2 (List.mem_of_getElem? (i := 105) rfl) rfl
set_option maxRecDepth 100000 in
theorem wd_2_106 : Cond.instanceMethod yX2_takeOver ∈ TB := tb2 (List.mem_of_getElem? (i := 106) rfl) rfl
set_option maxRecDepth 100000 in
theorem wd_2_107 : Cond.selects RX2 yX2_takeOver yX2_takeOver ∈ TB := tb2 (List.mem_of_getElem? (i := 107) rfl) rfl
set_option maxRecDepth 100000 in
theorem wd_2_108 : Cond.code yX2_takeOver cX2_takeOver 2 none ∈ TB := tb2 (List.mem_of_getElem? (i := 108) rfl) rfl
set_option maxRecDepth 100000 in
theorem wd_2_109 : Cond.methodLink RX7 43 yX5_newHead ∈ TB := tb2 (List.mem_of_getElem? (i := 109) rfl) rfl
set_option maxRecDepth 100000 in
theorem wd_2_110 : Cond.instanceMethod yX5_newHead ∈ TB := tb2 (List.mem_of_getElem? (i := 110) rfl) rfl
set_option maxRecDepth 100000 in
theorem wd_2_111 : Cond.selects RX5 yX5_newHead yX5_newHead ∈ TB := tb2 (List.mem_of_getElem? (i := 111) rfl) rfl
set_option maxRecDepth 100000 in
theorem wd_2_112 : Cond.code yX5_newHead cX5_newHead 4 (some .int) ∈ TB := tb2 (List.mem_of_getElem? (i := 112) rfl) rfl
set_option maxRecDepth 100000 in
theorem wd_2_113 : Cond.methodLink RX5 71 yX5_allWear ∈ TB := tb2 (List.mem_of_getElem? (i := 113) rfl) rfl
set_option maxRecDepth 100000 in
theorem wd_2_115 : Cond.instanceMethod yX5_allWear ∈ TB := tb2 (List.mem_of_getElem? (i := 115) rfl) rfl
set_option maxRecDepth 100000 in
theorem wd_2_116 : Cond.code yX5_allWear cX5_allWear 1 (some .int) ∈ TB := tb2 (List.mem_of_getElem? (i := 116) rfl) rfl
set_option maxRecDepth 100000 in
theorem wd_2_117 : Cond.methodLink RX5 206 yX3_wearSum ∈ TB := tb2 (List.mem_of_getElem? (i := 117) rfl) rfl
set_option maxRecDepth 100000 in
theorem wd_2_118 : Cond.instanceMethod yX3_wearSum ∈ TB := tb2 (List.mem_of_getElem? (i := 118) rfl) rfl
set_option maxRecDepth 100000 in
theorem wd_2_119 : Cond.selects RX3 yX3_wearSum yX3_wearSum ∈ TB := tb2 (List.mem_of_getElem? (i := 119) rfl) rfl
set_option maxRecDepth 100000 in
theorem wd_2_120 : Cond.code yX3_wearSum cX3_wearSum 5 (some .int) ∈ TB := tb2 (List.mem_of_getElem? (i := 120) rfl) rfl
set_option maxRecDepth 100000 in
theorem wd_2_121 : Cond.methodLink RX5 75 yX3_renewAll ∈ TB := tb2 (List.mem_of_getElem? (i := 121) rfl) rfl
set_option maxRecDepth 100000 in
theorem wd_2_122 : Cond.instanceMethod yX3_renewAll ∈ TB := tb2 (List.mem_of_getElem? (i := 122) rfl) rfl
set_option maxRecDepth 100000 in
theorem wd_2_123 : Cond.selects RX3 yX3_renewAll yX3_renewAll ∈ TB := tb2 (List.mem_of_getElem? (i := 123) rfl) rfl
set_option maxRecDepth 100000 in
theorem wd_2_124 : Cond.code yX3_renewAll cX3_renewAll 3 none ∈ TB := tb2 (List.mem_of_getElem? (i := 124) rfl) rfl
set_option maxRecDepth 100000 in
theorem wd_2_125 : Cond.methodLink RX3 34 yX3_renew ∈ TB := tb2 (List.mem_of_getElem? (i := 125) rfl) rfl
set_option maxRecDepth 100000 in
theorem wd_2_126 : Cond.instanceMethod yX3_renew ∈ TB := tb2 (List.mem_of_getElem? (i := 126) rfl) rfl
set_option maxRecDepth 100000 in
theorem wd_2_127 : Cond.selects RX3 yX3_renew yX3_renew ∈ TB := tb2 (List.mem_of_getElem? (i := 127) rfl) rfl
set_option maxRecDepth 100000 in
theorem wd_2_128 : Cond.code yX3_renew cX3_renew 2 none ∈ TB := tb2 (List.mem_of_getElem? (i := 128) rfl) rfl
set_option maxRecDepth 100000 in
theorem wd_2_129 : Cond.methodLink RX5 79 yX2_rentNothing ∈ TB := tb2 (List.mem_of_getElem? (i := 129) rfl) rfl
set_option maxRecDepth 100000 in
theorem wd_2_130 : Cond.instanceMethod yX2_rentNothing ∈ TB := tb2 (List.mem_of_getElem? (i := 130) rfl) rfl
set_option maxRecDepth 100000 in
theorem wd_2_131 : Cond.selects RX2 yX2_rentNothing yX2_rentNothing ∈ TB := tb2 (List.mem_of_getElem? (i := 131) rfl) rfl
set_option maxRecDepth 100000 in
theorem wd_2_132 : Cond.code yX2_rentNothing cX2_rentNothing 1 none ∈ TB := tb2 (List.mem_of_getElem? (i := 132) rfl) rfl
set_option maxRecDepth 100000 in
theorem wd_2_133 : Cond.constant RL 17 (-2000002) ∈ TB := tb2 (List.mem_of_getElem? (i := 133) rfl) rfl
set_option maxRecDepth 100000 in
theorem wd_2_136 : Cond.codeWith yL_sets cL_sets 4 (some .int) [(0, 6, 7, 15)] ∈ TB := tb2 (List.mem_of_getElem? (i := 136) rfl) rfl
set_option maxRecDepth 100000 in
theorem wd_2_137 : Cond.methodLink RL 18 yX7_set ∈ TB := tb2 (List.mem_of_getElem? (i := 137) rfl) rfl
set_option maxRecDepth 100000 in
theorem wd_2_138 : Cond.instanceMethod yX7_set ∈ TB := tb2 (List.mem_of_getElem? (i := 138) rfl) rfl
set_option maxRecDepth 100000 in
theorem wd_2_139 : Cond.selects RX7 yX7_set yX7_set ∈ TB := tb2 (List.mem_of_getElem? (i := 139) rfl) rfl
set_option maxRecDepth 100000 in
theorem wd_2_140 : Cond.code yX7_set cX7_set 3 (some .int) ∈ TB := tb2 (List.mem_of_getElem? (i := 140) rfl) rfl
set_option maxRecDepth 100000 in
theorem wd_2_141 : Cond.methodLink RX7 46 yX5_whyNotChangeSetting ∈ TB := tb2 (List.mem_of_getElem? (i := 141) rfl) rfl
set_option maxRecDepth 100000 in
theorem wd_2_142 : Cond.instanceMethod yX5_whyNotChangeSetting ∈ TB := tb2 (List.mem_of_getElem? (i := 142) rfl) rfl
set_option maxRecDepth 100000 in
theorem wd_2_143 : Cond.selects RX5 yX5_whyNotChangeSetting yX5_whyNotChangeSetting ∈ TB := tb2 (List.mem_of_getElem? (i := 143) rfl) rfl
set_option maxRecDepth 100000 in
theorem wd_2_144 : Cond.code yX5_whyNotChangeSetting cX5_whyNotChangeSetting 3 (some .int) ∈ TB := tb2 (List.mem_of_getElem? (i := 144) rfl) rfl
set_option maxRecDepth 100000 in
theorem wd_2_149 : Cond.methodLink RX7 50 yX5_changeSetting ∈ TB := tb2 (List.mem_of_getElem? (i := 149) rfl) rfl
set_option maxRecDepth 100000 in
theorem wd_2_150 : Cond.instanceMethod yX5_changeSetting ∈ TB := tb2 (List.mem_of_getElem? (i := 150) rfl) rfl
set_option maxRecDepth 100000 in
theorem wd_2_151 : Cond.selects RX5 yX5_changeSetting yX5_changeSetting ∈ TB := tb2 (List.mem_of_getElem? (i := 151) rfl) rfl
set_option maxRecDepth 100000 in
theorem wd_2_152 : Cond.code yX5_changeSetting cX5_changeSetting 4 (some .int) ∈ TB := tb2 (List.mem_of_getElem? (i := 152) rfl) rfl
set_option maxRecDepth 100000 in
theorem wd_2_155 : Cond.codeWith yL_labels cL_labels 4 (some .int) [(0, 6, 7, 15), (0, 6, 11, 25)] ∈ TB := tb2 (List.mem_of_getElem? (i := 155) rfl) rfl
set_option maxRecDepth 100000 in
theorem wd_2_156 : Cond.classLink RL 25 "java/lang/IllegalStateException" ∈ TB := tb2 (List.mem_of_getElem? (i := 156) rfl) rfl
set_option maxRecDepth 100000 in
theorem wd_2_157 : Cond.methodLink RL 22 yX7_addLabel ∈ TB := tb2 (List.mem_of_getElem? (i := 157) rfl) rfl
set_option maxRecDepth 100000 in
theorem wd_2_158 : Cond.instanceMethod yX7_addLabel ∈ TB := tb2 (List.mem_of_getElem? (i := 158) rfl) rfl
set_option maxRecDepth 100000 in
theorem wd_2_159 : Cond.selects RX7 yX7_addLabel yX7_addLabel ∈ TB := tb2 (List.mem_of_getElem? (i := 159) rfl) rfl
set_option maxRecDepth 100000 in
theorem wd_2_160 : Cond.code yX7_addLabel cX7_addLabel 3 (some .int) ∈ TB := tb2 (List.mem_of_getElem? (i := 160) rfl) rfl
set_option maxRecDepth 100000 in
theorem wd_2_161 : Cond.methodLink RX7 53 yX5_whyNotNewLabel ∈ TB := tb2 (List.mem_of_getElem? (i := 161) rfl) rfl
set_option maxRecDepth 100000 in
theorem wd_2_162 : Cond.instanceMethod yX5_whyNotNewLabel ∈ TB := tb2 (List.mem_of_getElem? (i := 162) rfl) rfl
set_option maxRecDepth 100000 in
theorem wd_2_163 : Cond.selects RX5 yX5_whyNotNewLabel yX5_whyNotNewLabel ∈ TB := tb2 (List.mem_of_getElem? (i := 163) rfl) rfl
set_option maxRecDepth 100000 in
theorem wd_2_164 : Cond.code yX5_whyNotNewLabel cX5_whyNotNewLabel 3 (some .int) ∈ TB := tb2 (List.mem_of_getElem? (i := 164) rfl) rfl
set_option maxRecDepth 100000 in
theorem wd_2_165 : Cond.methodLink RX7 56 yX5_newLabel ∈ TB := tb2 (List.mem_of_getElem? (i := 165) rfl) rfl
set_option maxRecDepth 100000 in
theorem wd_2_166 : Cond.instanceMethod yX5_newLabel ∈ TB := tb2 (List.mem_of_getElem? (i := 166) rfl) rfl
set_option maxRecDepth 100000 in
theorem wd_2_167 : Cond.selects RX5 yX5_newLabel yX5_newLabel ∈ TB := tb2 (List.mem_of_getElem? (i := 167) rfl) rfl
set_option maxRecDepth 100000 in
theorem wd_2_168 : Cond.code yX5_newLabel cX5_newLabel 3 (some .int) ∈ TB := tb2 (List.mem_of_getElem? (i := 168) rfl) rfl
set_option maxRecDepth 100000 in
theorem wd_2_169 : Cond.constant RL 27 (-2000003) ∈ TB := tb2 (List.mem_of_getElem? (i := 169) rfl) rfl
set_option maxRecDepth 100000 in
theorem wd_2_172 : Cond.codeWith yL_rows cL_rows 5 (some .int) [(0, 7, 8, 32), (0, 7, 13, 15)] ∈ TB := tb2 (List.mem_of_getElem? (i := 172) rfl) rfl
set_option maxRecDepth 100000 in
theorem wd_2_173 : Cond.classLink RL 32 "java/lang/IndexOutOfBoundsException" ∈ TB := tb2 (List.mem_of_getElem? (i := 173) rfl) rfl
set_option maxRecDepth 100000 in
theorem wd_2_174 : Cond.methodLink RL 28 yX7_setRow ∈ TB := tb2 (List.mem_of_getElem? (i := 174) rfl) rfl
set_option maxRecDepth 100000 in
theorem wd_2_175 : Cond.instanceMethod yX7_setRow ∈ TB := tb2 (List.mem_of_getElem? (i := 175) rfl) rfl
set_option maxRecDepth 100000 in
theorem wd_2_176 : Cond.selects RX7 yX7_setRow yX7_setRow ∈ TB := tb2 (List.mem_of_getElem? (i := 176) rfl) rfl
set_option maxRecDepth 100000 in
theorem wd_2_177 : Cond.code yX7_setRow cX7_setRow 4 (some .int) ∈ TB := tb2 (List.mem_of_getElem? (i := 177) rfl) rfl
set_option maxRecDepth 100000 in
theorem wd_2_178 : Cond.methodLink RX7 59 yX5_whyNotChangeRow ∈ TB := tb2 (List.mem_of_getElem? (i := 178) rfl) rfl
set_option maxRecDepth 100000 in
theorem wd_2_179 : Cond.instanceMethod yX5_whyNotChangeRow ∈ TB := tb2 (List.mem_of_getElem? (i := 179) rfl) rfl
set_option maxRecDepth 100000 in
theorem wd_2_180 : Cond.selects RX5 yX5_whyNotChangeRow yX5_whyNotChangeRow ∈ TB := tb2 (List.mem_of_getElem? (i := 180) rfl) rfl
set_option maxRecDepth 100000 in
theorem wd_2_181 : Cond.code yX5_whyNotChangeRow cX5_whyNotChangeRow 5 (some .int) ∈ TB := tb2 (List.mem_of_getElem? (i := 181) rfl) rfl
set_option maxRecDepth 100000 in
theorem wd_2_182 : Cond.methodLink RX5 94 yX5_hasLabel ∈ TB := tb2 (List.mem_of_getElem? (i := 182) rfl) rfl
set_option maxRecDepth 100000 in
theorem wd_2_183 : Cond.instanceMethod yX5_hasLabel ∈ TB := tb2 (List.mem_of_getElem? (i := 183) rfl) rfl
set_option maxRecDepth 100000 in
theorem wd_2_184 : Cond.selects RX5 yX5_hasLabel yX5_hasLabel ∈ TB := tb2 (List.mem_of_getElem? (i := 184) rfl) rfl
set_option maxRecDepth 100000 in
theorem wd_2_185 : Cond.code yX5_hasLabel cX5_hasLabel 2 (some .boolean) ∈ TB := tb2 (List.mem_of_getElem? (i := 185) rfl) rfl
set_option maxRecDepth 100000 in
theorem wd_2_186 : Cond.methodLink RX5 98 yX4_allColumns ∈ TB := tb2 (List.mem_of_getElem? (i := 186) rfl) rfl
set_option maxRecDepth 100000 in
theorem wd_2_187 : Cond.instanceMethod yX4_allColumns ∈ TB := tb2 (List.mem_of_getElem? (i := 187) rfl) rfl
set_option maxRecDepth 100000 in
theorem wd_2_188 : Cond.selects RX4 yX4_allColumns yX4_allColumns ∈ TB := tb2 (List.mem_of_getElem? (i := 188) rfl) rfl
set_option maxRecDepth 100000 in
theorem wd_2_189 : Cond.code yX4_allColumns cX4_allColumns 1 (some .int) ∈ TB := tb2 (List.mem_of_getElem? (i := 189) rfl) rfl
set_option maxRecDepth 100000 in
theorem wd_2_190 : Cond.methodLink RX7 63 yX5_changeRow ∈ TB := tb2 (List.mem_of_getElem? (i := 190) rfl) rfl
set_option maxRecDepth 100000 in
theorem wd_2_191 : Cond.instanceMethod yX5_changeRow ∈ TB := tb2 (List.mem_of_getElem? (i := 191) rfl) rfl
set_option maxRecDepth 100000 in
theorem wd_2_192 : Cond.selects RX5 yX5_changeRow yX5_changeRow ∈ TB := tb2 (List.mem_of_getElem? (i := 192) rfl) rfl
set_option maxRecDepth 100000 in
theorem wd_2_193 : Cond.code yX5_changeRow cX5_changeRow 5 (some .int) ∈ TB := tb2 (List.mem_of_getElem? (i := 193) rfl) rfl
set_option maxRecDepth 100000 in
theorem wd_2_194 : Cond.constant RL 34 (-2000001) ∈ TB := tb2 (List.mem_of_getElem? (i := 194) rfl) rfl
set_option maxRecDepth 100000 in
theorem wd_2_197 : Cond.codeWith yL_renews cL_renews 3 (some .int) [(0, 5, 6, 32)] ∈ TB := tb2 (List.mem_of_getElem? (i := 197) rfl) rfl
set_option maxRecDepth 100000 in
theorem wd_2_198 : Cond.methodLink RL 35 yX7_replace ∈ TB := tb2 (List.mem_of_getElem? (i := 198) rfl) rfl
set_option maxRecDepth 100000 in
theorem wd_2_199 : Cond.instanceMethod yX7_replace ∈ TB := tb2 (List.mem_of_getElem? (i := 199) rfl) rfl
set_option maxRecDepth 100000 in
theorem wd_2_200 : Cond.selects RX7 yX7_replace yX7_replace ∈ TB := tb2 (List.mem_of_getElem? (i := 200) rfl) rfl
set_option maxRecDepth 100000 in
theorem wd_2_201 : Cond.code yX7_replace cX7_replace 2 (some .int) ∈ TB := tb2 (List.mem_of_getElem? (i := 201) rfl) rfl
set_option maxRecDepth 100000 in
theorem wd_2_202 : Cond.methodLink RX7 66 yX5_whyNotNewDot ∈ TB := tb2 (List.mem_of_getElem? (i := 202) rfl) rfl
set_option maxRecDepth 100000 in
theorem wd_2_203 : Cond.instanceMethod yX5_whyNotNewDot ∈ TB := tb2 (List.mem_of_getElem? (i := 203) rfl) rfl
set_option maxRecDepth 100000 in
theorem wd_2_204 : Cond.selects RX5 yX5_whyNotNewDot yX5_whyNotNewDot ∈ TB := tb2 (List.mem_of_getElem? (i := 204) rfl) rfl
set_option maxRecDepth 100000 in
theorem wd_2_205 : Cond.code yX5_whyNotNewDot cX5_whyNotNewDot 2 (some .int) ∈ TB := tb2 (List.mem_of_getElem? (i := 205) rfl) rfl
set_option maxRecDepth 100000 in
theorem wd_2_206 : Cond.methodLink RX5 104 yX5_hasDot ∈ TB := tb2 (List.mem_of_getElem? (i := 206) rfl) rfl
set_option maxRecDepth 100000 in
theorem wd_2_207 : Cond.instanceMethod yX5_hasDot ∈ TB := tb2 (List.mem_of_getElem? (i := 207) rfl) rfl
set_option maxRecDepth 100000 in
theorem wd_2_208 : Cond.selects RX5 yX5_hasDot yX5_hasDot ∈ TB := tb2 (List.mem_of_getElem? (i := 208) rfl) rfl
set_option maxRecDepth 100000 in
theorem wd_2_209 : Cond.code yX5_hasDot cX5_hasDot 2 (some .boolean) ∈ TB := tb2 (List.mem_of_getElem? (i := 209) rfl) rfl
set_option maxRecDepth 100000 in
theorem wd_2_210 : Cond.methodLink RX7 69 yX5_newDot ∈ TB := tb2 (List.mem_of_getElem? (i := 210) rfl) rfl
set_option maxRecDepth 100000 in
theorem wd_2_211 : Cond.instanceMethod yX5_newDot ∈ TB := tb2 (List.mem_of_getElem? (i := 211) rfl) rfl
set_option maxRecDepth 100000 in
theorem wd_2_212 : Cond.selects RX5 yX5_newDot yX5_newDot ∈ TB := tb2 (List.mem_of_getElem? (i := 212) rfl) rfl
set_option maxRecDepth 100000 in
theorem wd_2_213 : Cond.code yX5_newDot cX5_newDot 3 (some .int) ∈ TB := tb2 (List.mem_of_getElem? (i := 213) rfl) rfl
set_option maxRecDepth 100000 in
theorem wd_2_214 : Cond.methodLink RX5 110 yX3_renew ∈ TB := tb2 (List.mem_of_getElem? (i := 214) rfl) rfl
set_option maxRecDepth 100000 in
theorem wd_2_217 : Cond.codeWith yL_cools cL_cools 3 (some .int) [(0, 5, 6, 15)] ∈ TB := tb2 (List.mem_of_getElem? (i := 217) rfl) rfl
set_option maxRecDepth 100000 in
theorem wd_2_218 : Cond.methodLink RL 38 yX7_cool ∈ TB := tb2 (List.mem_of_getElem? (i := 218) rfl) rfl
set_option maxRecDepth 100000 in
theorem wd_2_219 : Cond.instanceMethod yX7_cool ∈ TB := tb2 (List.mem_of_getElem? (i := 219) rfl) rfl
set_option maxRecDepth 100000 in
theorem wd_2_220 : Cond.selects RX7 yX7_cool yX7_cool ∈ TB := tb2 (List.mem_of_getElem? (i := 220) rfl) rfl
set_option maxRecDepth 100000 in
theorem wd_2_221 : Cond.code yX7_cool cX7_cool 2 (some .int) ∈ TB := tb2 (List.mem_of_getElem? (i := 221) rfl) rfl
set_option maxRecDepth 100000 in
theorem wd_2_222 : Cond.methodLink RX7 72 yX5_whyNotPassLines ∈ TB := tb2 (List.mem_of_getElem? (i := 222) rfl) rfl
set_option maxRecDepth 100000 in
theorem wd_2_223 : Cond.instanceMethod yX5_whyNotPassLines ∈ TB := tb2 (List.mem_of_getElem? (i := 223) rfl) rfl
set_option maxRecDepth 100000 in
theorem wd_2_224 : Cond.selects RX5 yX5_whyNotPassLines yX5_whyNotPassLines ∈ TB := tb2 (List.mem_of_getElem? (i := 224) rfl) rfl
set_option maxRecDepth 100000 in
theorem wd_2_225 : Cond.code yX5_whyNotPassLines cX5_whyNotPassLines 2 (some .int) ∈ TB := tb2 (List.mem_of_getElem? (i := 225) rfl) rfl
set_option maxRecDepth 100000 in
theorem wd_2_226 : Cond.methodLink RX7 75 yX5_passLines ∈ TB := tb2 (List.mem_of_getElem? (i := 226) rfl) rfl
set_option maxRecDepth 100000 in
theorem wd_2_227 : Cond.instanceMethod yX5_passLines ∈ TB := tb2 (List.mem_of_getElem? (i := 227) rfl) rfl
set_option maxRecDepth 100000 in
theorem wd_2_228 : Cond.selects RX5 yX5_passLines yX5_passLines ∈ TB := tb2 (List.mem_of_getElem? (i := 228) rfl) rfl
set_option maxRecDepth 100000 in
theorem wd_2_229 : Cond.code yX5_passLines cX5_passLines 2 (some .int) ∈ TB := tb2 (List.mem_of_getElem? (i := 229) rfl) rfl
set_option maxRecDepth 100000 in
theorem wd_2_230 : Cond.methodLink RX5 113 yX3_lose ∈ TB := tb2 (List.mem_of_getElem? (i := 230) rfl) rfl
set_option maxRecDepth 100000 in
theorem wd_2_231 : Cond.instanceMethod yX3_lose ∈ TB := tb2 (List.mem_of_getElem? (i := 231) rfl) rfl
set_option maxRecDepth 100000 in
theorem wd_2_232 : Cond.selects RX3 yX3_lose yX3_lose ∈ TB := tb2 (List.mem_of_getElem? (i := 232) rfl) rfl
set_option maxRecDepth 100000 in
theorem wd_2_233 : Cond.code yX3_lose cX3_lose 3 none ∈ TB := tb2 (List.mem_of_getElem? (i := 233) rfl) rfl
set_option maxRecDepth 100000 in
theorem wd_2_234 : Cond.methodLink RX5 116 yX3_heatSum ∈ TB := tb2 (List.mem_of_getElem? (i := 234) rfl) rfl
set_option maxRecDepth 100000 in
theorem wd_2_235 : Cond.instanceMethod yX3_heatSum ∈ TB := tb2 (List.mem_of_getElem? (i := 235) rfl) rfl
set_option maxRecDepth 100000 in
theorem wd_2_236 : Cond.selects RX3 yX3_heatSum yX3_heatSum ∈ TB := tb2 (List.mem_of_getElem? (i := 236) rfl) rfl
set_option maxRecDepth 100000 in
theorem wd_2_237 : Cond.code yX3_heatSum cX3_heatSum 3 (some .int) ∈ TB := tb2 (List.mem_of_getElem? (i := 237) rfl) rfl
set_option maxRecDepth 100000 in
theorem wd_3_0 : Cond.codeWith yL_customers cL_customers 2 (some .int) [(0, 4, 5, 25)] ∈ TB := tb3 (List.mem_of_getElem? (i := 0) rfl) rfl
set_option maxRecDepth 100000 in
theorem wd_3_1 : Cond.methodLink RL 41 yX7_addCustomer ∈ TB := tb3 (List.mem_of_getElem? (i := 1) rfl) rfl
set_option maxRecDepth 100000 in
theorem wd_3_2 : Cond.instanceMethod yX7_addCustomer ∈ TB := tb3 (List.mem_of_getElem? (i := 2) rfl) rfl
set_option maxRecDepth 100000 in
theorem wd_3_3 : Cond.selects RX7 yX7_addCustomer yX7_addCustomer ∈ TB := tb3 (List.mem_of_getElem? (i := 3) rfl) rfl
set_option maxRecDepth 100000 in
theorem wd_3_4 : Cond.code yX7_addCustomer cX7_addCustomer 1 (some .int) ∈ TB := tb3 (List.mem_of_getElem? (i := 4) rfl) rfl
set_option maxRecDepth 100000 in
theorem wd_3_5 : Cond.methodLink RX7 78 yX5_whyNotNewCustomer ∈ TB := tb3 (List.mem_of_getElem? (i := 5) rfl) rfl
set_option maxRecDepth 100000 in
theorem wd_3_6 : Cond.instanceMethod yX5_whyNotNewCustomer ∈ TB := tb3 (List.mem_of_getElem? (i := 6) rfl) rfl
set_option maxRecDepth 100000 in
theorem wd_3_7 : Cond.selects RX5 yX5_whyNotNewCustomer yX5_whyNotNewCustomer ∈ TB := tb3 (List.mem_of_getElem? (i := 7) rfl) rfl
set_option maxRecDepth 100000 in
theorem wd_3_8 : Cond.code yX5_whyNotNewCustomer cX5_whyNotNewCustomer 1 (some .int) ∈ TB := tb3 (List.mem_of_getElem? (i := 8) rfl) rfl
set_option maxRecDepth 100000 in
theorem wd_3_9 : Cond.methodLink RX7 82 yX5_newCustomer ∈ TB := tb3 (List.mem_of_getElem? (i := 9) rfl) rfl
set_option maxRecDepth 100000 in
theorem wd_3_10 : Cond.instanceMethod yX5_newCustomer ∈ TB := tb3 (List.mem_of_getElem? (i := 10) rfl) rfl
set_option maxRecDepth 100000 in
theorem wd_3_11 : Cond.selects RX5 yX5_newCustomer yX5_newCustomer ∈ TB := tb3 (List.mem_of_getElem? (i := 11) rfl) rfl
set_option maxRecDepth 100000 in
theorem wd_3_12 : Cond.code yX5_newCustomer cX5_newCustomer 1 (some .int) ∈ TB := tb3 (List.mem_of_getElem? (i := 12) rfl) rfl
set_option maxRecDepth 100000 in
theorem wd_3_18 : Cond.codeWith yL_ends cL_ends 3 (some .int) [(0, 5, 6, 32), (0, 5, 10, 25)] ∈ TB := tb3 (List.mem_of_getElem? (i := 18) rfl) rfl
set_option maxRecDepth 100000 in
theorem wd_3_19 : Cond.methodLink RL 48 yX7_endRent ∈ TB := tb3 (List.mem_of_getElem? (i := 19) rfl) rfl
set_option maxRecDepth 100000 in
theorem wd_3_20 : Cond.instanceMethod yX7_endRent ∈ TB := tb3 (List.mem_of_getElem? (i := 20) rfl) rfl
set_option maxRecDepth 100000 in
theorem wd_3_21 : Cond.selects RX7 yX7_endRent yX7_endRent ∈ TB := tb3 (List.mem_of_getElem? (i := 21) rfl) rfl
set_option maxRecDepth 100000 in
theorem wd_3_22 : Cond.code yX7_endRent cX7_endRent 2 (some .int) ∈ TB := tb3 (List.mem_of_getElem? (i := 22) rfl) rfl
set_option maxRecDepth 100000 in
theorem wd_3_23 : Cond.methodLink RX7 91 yX5_whyNotEndLet ∈ TB := tb3 (List.mem_of_getElem? (i := 23) rfl) rfl
set_option maxRecDepth 100000 in
theorem wd_3_24 : Cond.instanceMethod yX5_whyNotEndLet ∈ TB := tb3 (List.mem_of_getElem? (i := 24) rfl) rfl
set_option maxRecDepth 100000 in
theorem wd_3_25 : Cond.selects RX5 yX5_whyNotEndLet yX5_whyNotEndLet ∈ TB := tb3 (List.mem_of_getElem? (i := 25) rfl) rfl
set_option maxRecDepth 100000 in
theorem wd_3_26 : Cond.code yX5_whyNotEndLet cX5_whyNotEndLet 2 (some .int) ∈ TB := tb3 (List.mem_of_getElem? (i := 26) rfl) rfl
set_option maxRecDepth 100000 in
theorem wd_3_27 : Cond.methodLink RX5 119 yX5_hasCustomer ∈ TB := tb3 (List.mem_of_getElem? (i := 27) rfl) rfl
set_option maxRecDepth 100000 in
theorem wd_3_28 : Cond.instanceMethod yX5_hasCustomer ∈ TB := tb3 (List.mem_of_getElem? (i := 28) rfl) rfl
set_option maxRecDepth 100000 in
theorem wd_3_29 : Cond.selects RX5 yX5_hasCustomer yX5_hasCustomer ∈ TB := tb3 (List.mem_of_getElem? (i := 29) rfl) rfl
set_option maxRecDepth 100000 in
theorem wd_3_30 : Cond.code yX5_hasCustomer cX5_hasCustomer 2 (some .boolean) ∈ TB := tb3 (List.mem_of_getElem? (i := 30) rfl) rfl
set_option maxRecDepth 100000 in
theorem wd_3_31 : Cond.methodLink RX5 135 yX2_rented ∈ TB := tb3 (List.mem_of_getElem? (i := 31) rfl) rfl
set_option maxRecDepth 100000 in
theorem wd_3_32 : Cond.instanceMethod yX2_rented ∈ TB := tb3 (List.mem_of_getElem? (i := 32) rfl) rfl
set_option maxRecDepth 100000 in
theorem wd_3_33 : Cond.selects RX2 yX2_rented yX2_rented ∈ TB := tb3 (List.mem_of_getElem? (i := 33) rfl) rfl
set_option maxRecDepth 100000 in
theorem wd_3_34 : Cond.code yX2_rented cX2_rented 1 (some .int) ∈ TB := tb3 (List.mem_of_getElem? (i := 34) rfl) rfl
set_option maxRecDepth 100000 in
theorem wd_3_35 : Cond.methodLink RX7 94 yX5_endLet ∈ TB := tb3 (List.mem_of_getElem? (i := 35) rfl) rfl
set_option maxRecDepth 100000 in
theorem wd_3_36 : Cond.instanceMethod yX5_endLet ∈ TB := tb3 (List.mem_of_getElem? (i := 36) rfl) rfl
set_option maxRecDepth 100000 in
theorem wd_3_37 : Cond.selects RX5 yX5_endLet yX5_endLet ∈ TB := tb3 (List.mem_of_getElem? (i := 37) rfl) rfl
set_option maxRecDepth 100000 in
theorem wd_3_38 : Cond.code yX5_endLet cX5_endLet 3 (some .int) ∈ TB := tb3 (List.mem_of_getElem? (i := 38) rfl) rfl
set_option maxRecDepth 100000 in
theorem wd_3_41 : Cond.codeWith yL_rents cL_rents 5 (some .int) [(0, 7, 8, 32), (0, 7, 13, 15), (0, 7, 18, 25)] ∈ TB := tb3 (List.mem_of_getElem? (i := 41) rfl) rfl
set_option maxRecDepth 100000 in
theorem wd_3_42 : Cond.methodLink RL 45 yX7_rent ∈ TB := tb3 (List.mem_of_getElem? (i := 42) rfl) rfl
set_option maxRecDepth 100000 in
theorem wd_3_43 : Cond.instanceMethod yX7_rent ∈ TB := tb3 (List.mem_of_getElem? (i := 43) rfl) rfl
set_option maxRecDepth 100000 in
theorem wd_3_44 : Cond.selects RX7 yX7_rent yX7_rent ∈ TB := tb3 (List.mem_of_getElem? (i := 44) rfl) rfl
set_option maxRecDepth 100000 in
theorem wd_3_45 : Cond.code yX7_rent cX7_rent 4 (some .int) ∈ TB := tb3 (List.mem_of_getElem? (i := 45) rfl) rfl
set_option maxRecDepth 100000 in
theorem wd_3_46 : Cond.methodLink RX7 85 yX5_whyNotLet ∈ TB := tb3 (List.mem_of_getElem? (i := 46) rfl) rfl
set_option maxRecDepth 100000 in
theorem wd_3_47 : Cond.instanceMethod yX5_whyNotLet ∈ TB := tb3 (List.mem_of_getElem? (i := 47) rfl) rfl
set_option maxRecDepth 100000 in
theorem wd_3_48 : Cond.selects RX5 yX5_whyNotLet yX5_whyNotLet ∈ TB := tb3 (List.mem_of_getElem? (i := 48) rfl) rfl
set_option maxRecDepth 100000 in
theorem wd_3_49 : Cond.code yX5_whyNotLet cX5_whyNotLet 4 (some .int) ∈ TB := tb3 (List.mem_of_getElem? (i := 49) rfl) rfl
set_option maxRecDepth 100000 in
theorem wd_3_50 : Cond.methodLink RX5 122 yX5_othersRentOneOf ∈ TB := tb3 (List.mem_of_getElem? (i := 50) rfl) rfl
set_option maxRecDepth 100000 in
theorem wd_3_52 : Cond.instanceMethod yX5_othersRentOneOf ∈ TB := tb3 (List.mem_of_getElem? (i := 52) rfl) rfl
set_option maxRecDepth 100000 in
theorem wd_3_53 : Cond.code yX5_othersRentOneOf cX5_othersRentOneOf 5 (some .boolean) ∈ TB := tb3 (List.mem_of_getElem? (i := 53) rfl) rfl
set_option maxRecDepth 100000 in
theorem wd_3_54 : Cond.methodLink RX5 209 yX2_rentsOneOf ∈ TB := tb3 (List.mem_of_getElem? (i := 54) rfl) rfl
set_option maxRecDepth 100000 in
theorem wd_3_55 : Cond.instanceMethod yX2_rentsOneOf ∈ TB := tb3 (List.mem_of_getElem? (i := 55) rfl) rfl
set_option maxRecDepth 100000 in
theorem wd_3_56 : Cond.selects RX2 yX2_rentsOneOf yX2_rentsOneOf ∈ TB := tb3 (List.mem_of_getElem? (i := 56) rfl) rfl
set_option maxRecDepth 100000 in
theorem wd_3_57 : Cond.code yX2_rentsOneOf cX2_rentsOneOf 3 (some .boolean) ∈ TB := tb3 (List.mem_of_getElem? (i := 57) rfl) rfl
set_option maxRecDepth 100000 in
theorem wd_3_58 : Cond.methodLink RX7 88 yX5_let ∈ TB := tb3 (List.mem_of_getElem? (i := 58) rfl) rfl
set_option maxRecDepth 100000 in
theorem wd_3_59 : Cond.instanceMethod yX5_let ∈ TB := tb3 (List.mem_of_getElem? (i := 59) rfl) rfl
set_option maxRecDepth 100000 in
theorem wd_3_60 : Cond.selects RX5 yX5_let yX5_let ∈ TB := tb3 (List.mem_of_getElem? (i := 60) rfl) rfl
set_option maxRecDepth 100000 in
theorem wd_3_61 : Cond.code yX5_let cX5_let 4 (some .int) ∈ TB := tb3 (List.mem_of_getElem? (i := 61) rfl) rfl
set_option maxRecDepth 100000 in
theorem wd_3_62 : Cond.methodLink RX5 132 yX5_allRented ∈ TB := tb3 (List.mem_of_getElem? (i := 62) rfl) rfl
set_option maxRecDepth 100000 in
theorem wd_3_64 : Cond.instanceMethod yX5_allRented ∈ TB := tb3 (List.mem_of_getElem? (i := 64) rfl) rfl
set_option maxRecDepth 100000 in
theorem wd_3_65 : Cond.code yX5_allRented cX5_allRented 3 (some .int) ∈ TB := tb3 (List.mem_of_getElem? (i := 65) rfl) rfl
set_option maxRecDepth 100000 in
theorem wd_3_77 : Cond.codeWith yL_prints cL_prints 5 (some .int) [(0, 7, 8, 32), (0, 7, 13, 15), (0, 7, 18, 25)] ∈ TB := tb3 (List.mem_of_getElem? (i := 77) rfl) rfl
set_option maxRecDepth 100000 in
theorem wd_3_78 : Cond.methodLink RL 51 yX7_print ∈ TB := tb3 (List.mem_of_getElem? (i := 78) rfl) rfl
set_option maxRecDepth 100000 in
theorem wd_3_79 : Cond.instanceMethod yX7_print ∈ TB := tb3 (List.mem_of_getElem? (i := 79) rfl) rfl
set_option maxRecDepth 100000 in
theorem wd_3_80 : Cond.selects RX7 yX7_print yX7_print ∈ TB := tb3 (List.mem_of_getElem? (i := 80) rfl) rfl
set_option maxRecDepth 100000 in
theorem wd_3_81 : Cond.code yX7_print cX7_print 4 (some .int) ∈ TB := tb3 (List.mem_of_getElem? (i := 81) rfl) rfl
set_option maxRecDepth 100000 in
theorem wd_3_82 : Cond.methodLink RX7 97 yX5_whyNotPrintAt ∈ TB := tb3 (List.mem_of_getElem? (i := 82) rfl) rfl
set_option maxRecDepth 100000 in
theorem wd_3_83 : Cond.instanceMethod yX5_whyNotPrintAt ∈ TB := tb3 (List.mem_of_getElem? (i := 83) rfl) rfl
set_option maxRecDepth 100000 in
theorem wd_3_84 : Cond.selects RX5 yX5_whyNotPrintAt yX5_whyNotPrintAt ∈ TB := tb3 (List.mem_of_getElem? (i := 84) rfl) rfl
set_option maxRecDepth 100000 in
theorem wd_3_85 : Cond.code yX5_whyNotPrintAt cX5_whyNotPrintAt 5 (some .int) ∈ TB := tb3 (List.mem_of_getElem? (i := 85) rfl) rfl
set_option maxRecDepth 100000 in
theorem wd_3_86 : Cond.methodLink RX5 138 yX5_whyNotAskAbout ∈ TB := tb3 (List.mem_of_getElem? (i := 86) rfl) rfl
set_option maxRecDepth 100000 in
theorem wd_3_87 : Cond.instanceMethod yX5_whyNotAskAbout ∈ TB := tb3 (List.mem_of_getElem? (i := 87) rfl) rfl
set_option maxRecDepth 100000 in
theorem wd_3_88 : Cond.selects RX5 yX5_whyNotAskAbout yX5_whyNotAskAbout ∈ TB := tb3 (List.mem_of_getElem? (i := 88) rfl) rfl
set_option maxRecDepth 100000 in
theorem wd_3_89 : Cond.code yX5_whyNotAskAbout cX5_whyNotAskAbout 4 (some .int) ∈ TB := tb3 (List.mem_of_getElem? (i := 89) rfl) rfl
set_option maxRecDepth 100000 in
theorem wd_3_90 : Cond.methodLink RX5 142 yX5_reasonAt ∈ TB := tb3 (List.mem_of_getElem? (i := 90) rfl) rfl
set_option maxRecDepth 100000 in
theorem wd_3_91 : Cond.instanceMethod yX5_reasonAt ∈ TB := tb3 (List.mem_of_getElem? (i := 91) rfl) rfl
set_option maxRecDepth 100000 in
theorem wd_3_92 : Cond.selects RX5 yX5_reasonAt yX5_reasonAt ∈ TB := tb3 (List.mem_of_getElem? (i := 92) rfl) rfl
set_option maxRecDepth 100000 in
theorem wd_3_93 : Cond.code yX5_reasonAt cX5_reasonAt 5 (some .int) ∈ TB := tb3 (List.mem_of_getElem? (i := 93) rfl) rfl
set_option maxRecDepth 100000 in
theorem wd_3_94 : Cond.methodLink RX5 213 yX4_blackCells ∈ TB := tb3 (List.mem_of_getElem? (i := 94) rfl) rfl
set_option maxRecDepth 100000 in
theorem wd_3_95 : Cond.instanceMethod yX4_blackCells ∈ TB := tb3 (List.mem_of_getElem? (i := 95) rfl) rfl
set_option maxRecDepth 100000 in
theorem wd_3_96 : Cond.selects RX4 yX4_blackCells yX4_blackCells ∈ TB := tb3 (List.mem_of_getElem? (i := 96) rfl) rfl
set_option maxRecDepth 100000 in
theorem wd_3_97 : Cond.code yX4_blackCells cX4_blackCells 3 (some .int) ∈ TB := tb3 (List.mem_of_getElem? (i := 97) rfl) rfl
set_option maxRecDepth 100000 in
theorem wd_3_98 : Cond.methodLink RX4 34 yJ6_bitCount_0f7a4 ∈ TB := tb3 (List.mem_of_getElem? (i := 98) rfl) rfl
set_option maxRecDepth 100000 in
theorem wd_3_99 : Cond.static yJ6_bitCount_0f7a4 ∈ TB := tb3 (List.mem_of_getElem? (i := 99) rfl) rfl
set_option maxRecDepth 100000 in
theorem wd_3_100 : Cond.code yJ6_bitCount_0f7a4 cJ6_bitCount_0f7a4 1 (some .int) ∈ TB := tb3 (List.mem_of_getElem? (i := 100) rfl) rfl
set_option maxRecDepth 100000 in
theorem wd_3_101 : Cond.constant RJ6 265 (1431655765) ∈ TB := tb3 (List.mem_of_getElem? (i := 101) rfl) rfl
set_option maxRecDepth 100000 in
theorem wd_3_102 : Cond.constant RJ6 266 (858993459) ∈ TB := tb3 (List.mem_of_getElem? (i := 102) rfl) rfl
set_option maxRecDepth 100000 in
theorem wd_3_103 : Cond.constant RJ6 267 (252645135) ∈ TB := tb3 (List.mem_of_getElem? (i := 103) rfl) rfl
set_option maxRecDepth 100000 in
theorem wd_3_104 : Cond.methodLink RX7 100 yX5_printAt ∈ TB := tb3 (List.mem_of_getElem? (i := 104) rfl) rfl
set_option maxRecDepth 100000 in
theorem wd_3_105 : Cond.instanceMethod yX5_printAt ∈ TB := tb3 (List.mem_of_getElem? (i := 105) rfl) rfl
set_option maxRecDepth 100000 in
theorem wd_3_106 : Cond.selects RX5 yX5_printAt yX5_printAt ∈ TB := tb3 (List.mem_of_getElem? (i := 106) rfl) rfl
set_option maxRecDepth 100000 in
theorem wd_3_107 : Cond.code yX5_printAt cX5_printAt 6 (some .int) ∈ TB := tb3 (List.mem_of_getElem? (i := 107) rfl) rfl
set_option maxRecDepth 100000 in
theorem wd_3_108 : Cond.methodLink RX5 145 yX5_priceAt ∈ TB := tb3 (List.mem_of_getElem? (i := 108) rfl) rfl
set_option maxRecDepth 100000 in
theorem wd_3_109 : Cond.instanceMethod yX5_priceAt ∈ TB := tb3 (List.mem_of_getElem? (i := 109) rfl) rfl
set_option maxRecDepth 100000 in
theorem wd_3_110 : Cond.selects RX5 yX5_priceAt yX5_priceAt ∈ TB := tb3 (List.mem_of_getElem? (i := 110) rfl) rfl
set_option maxRecDepth 100000 in
theorem wd_3_111 : Cond.code yX5_priceAt cX5_priceAt 8 (some .int) ∈ TB := tb3 (List.mem_of_getElem? (i := 111) rfl) rfl
set_option maxRecDepth 100000 in
theorem wd_3_112 : Cond.methodLink RX5 216 yX2_rentsAllOf ∈ TB := tb3 (List.mem_of_getElem? (i := 112) rfl) rfl
set_option maxRecDepth 100000 in
theorem wd_3_113 : Cond.instanceMethod yX2_rentsAllOf ∈ TB := tb3 (List.mem_of_getElem? (i := 113) rfl) rfl
set_option maxRecDepth 100000 in
theorem wd_3_114 : Cond.selects RX2 yX2_rentsAllOf yX2_rentsAllOf ∈ TB := tb3 (List.mem_of_getElem? (i := 114) rfl) rfl
set_option maxRecDepth 100000 in
theorem wd_3_115 : Cond.code yX2_rentsAllOf cX2_rentsAllOf 3 (some .boolean) ∈ TB := tb3 (List.mem_of_getElem? (i := 115) rfl) rfl
set_option maxRecDepth 100000 in
theorem wd_3_116 : Cond.methodLink RX5 219 Lib.Math.min.name ∈ TB := tb3 (List.mem_of_getElem? (i := 116) rfl) rfl
set_option maxRecDepth 100000 in
theorem wd_3_117 : Cond.static Lib.Math.min.name ∈ TB := tb3 (List.mem_of_getElem? (i := 117) rfl) rfl
set_option maxRecDepth 100000 in
theorem wd_3_118 : Cond.code Lib.Math.min.name Lib.Math.min.code 2 (some .int) ∈ TB := tb3 (List.mem_of_getElem? (i := 118) rfl) rfl
set_option maxRecDepth 100000 in
theorem wd_3_119 : Cond.methodLink RX5 148 yX3_printRows ∈ TB := tb3 (List.mem_of_getElem? (i := 119) rfl) rfl
set_option maxRecDepth 100000 in
theorem wd_3_120 : Cond.instanceMethod yX3_printRows ∈ TB := tb3 (List.mem_of_getElem? (i := 120) rfl) rfl
set_option maxRecDepth 100000 in
theorem wd_3_121 : Cond.selects RX3 yX3_printRows yX3_printRows ∈ TB := tb3 (List.mem_of_getElem? (i := 121) rfl) rfl
set_option maxRecDepth 100000 in
theorem wd_3_122 : Cond.code yX3_printRows cX3_printRows 9 (some .int) ∈ TB := tb3 (List.mem_of_getElem? (i := 122) rfl) rfl
set_option maxRecDepth 100000 in
theorem wd_3_123 : Cond.methodLink RX3 46 yX3_fadeOf ∈ TB := tb3 (List.mem_of_getElem? (i := 123) rfl) rfl
set_option maxRecDepth 100000 in
theorem wd_3_124 : Cond.instanceMethod yX3_fadeOf ∈ TB := tb3 (List.mem_of_getElem? (i := 124) rfl) rfl
set_option maxRecDepth 100000 in
theorem wd_3_125 : Cond.selects RX3 yX3_fadeOf yX3_fadeOf ∈ TB := tb3 (List.mem_of_getElem? (i := 125) rfl) rfl
set_option maxRecDepth 100000 in
theorem wd_3_126 : Cond.code yX3_fadeOf cX3_fadeOf 5 (some .int) ∈ TB := tb3 (List.mem_of_getElem? (i := 126) rfl) rfl
set_option maxRecDepth 100000 in
theorem wd_3_127 : Cond.methodLink RX3 53 yX3_burn ∈ TB := tb3 (List.mem_of_getElem? (i := 127) rfl) rfl
set_option maxRecDepth 100000 in
theorem wd_3_129 : Cond.instanceMethod yX3_burn ∈ TB := tb3 (List.mem_of_getElem? (i := 129) rfl) rfl
set_option maxRecDepth 100000 in
theorem wd_3_130 : Cond.code yX3_burn cX3_burn 4 none ∈ TB := tb3 (List.mem_of_getElem? (i := 130) rfl) rfl
set_option maxRecDepth 100000 in
theorem wd_3_131 : Cond.methodLink RX3 57 yX3_lose ∈ TB := tb3 (List.mem_of_getElem? (i := 131) rfl) rfl
set_option maxRecDepth 100000 in
theorem wd_3_132 : Cond.methodLink RX5 152 yX5_book ∈ TB := tb3 (List.mem_of_getElem? (i := 132) rfl) rfl
set_option maxRecDepth 100000 in
theorem wd_3_134 : Cond.instanceMethod yX5_book ∈ TB := tb3 (List.mem_of_getElem? (i := 134) rfl) rfl
set_option maxRecDepth 100000 in
theorem wd_3_135 : Cond.code yX5_book cX5_book 5 none ∈ TB := tb3 (List.mem_of_getElem? (i := 135) rfl) rfl
set_option maxRecDepth 100000 in
theorem wd_3_138 : Cond.codeWith yL_bests cL_bests 4 (some .int) [(0, 6, 7, 32), (0, 6, 11, 25)] ∈ TB := tb3 (List.mem_of_getElem? (i := 138) rfl) rfl
set_option maxRecDepth 100000 in
theorem wd_3_139 : Cond.methodLink RL 54 yX7_printBest ∈ TB := tb3 (List.mem_of_getElem? (i := 139) rfl) rfl
set_option maxRecDepth 100000 in
theorem wd_3_140 : Cond.instanceMethod yX7_printBest ∈ TB := tb3 (List.mem_of_getElem? (i := 140) rfl) rfl
set_option maxRecDepth 100000 in
theorem wd_3_141 : Cond.selects RX7 yX7_printBest yX7_printBest ∈ TB := tb3 (List.mem_of_getElem? (i := 141) rfl) rfl
set_option maxRecDepth 100000 in
theorem wd_3_142 : Cond.code yX7_printBest cX7_printBest 3 (some .int) ∈ TB := tb3 (List.mem_of_getElem? (i := 142) rfl) rfl
set_option maxRecDepth 100000 in
theorem wd_3_143 : Cond.methodLink RX7 103 yX5_whyNotPrintAtBest ∈ TB := tb3 (List.mem_of_getElem? (i := 143) rfl) rfl
set_option maxRecDepth 100000 in
theorem wd_3_144 : Cond.instanceMethod yX5_whyNotPrintAtBest ∈ TB := tb3 (List.mem_of_getElem? (i := 144) rfl) rfl
set_option maxRecDepth 100000 in
theorem wd_3_145 : Cond.selects RX5 yX5_whyNotPrintAtBest yX5_whyNotPrintAtBest ∈ TB := tb3 (List.mem_of_getElem? (i := 145) rfl) rfl
set_option maxRecDepth 100000 in
theorem wd_3_146 : Cond.code yX5_whyNotPrintAtBest cX5_whyNotPrintAtBest 3 (some .int) ∈ TB := tb3 (List.mem_of_getElem? (i := 146) rfl) rfl
set_option maxRecDepth 100000 in
theorem wd_3_147 : Cond.methodLink RX5 170 yX5_whyNotPair ∈ TB := tb3 (List.mem_of_getElem? (i := 147) rfl) rfl
set_option maxRecDepth 100000 in
theorem wd_3_148 : Cond.instanceMethod yX5_whyNotPair ∈ TB := tb3 (List.mem_of_getElem? (i := 148) rfl) rfl
set_option maxRecDepth 100000 in
theorem wd_3_149 : Cond.selects RX5 yX5_whyNotPair yX5_whyNotPair ∈ TB := tb3 (List.mem_of_getElem? (i := 149) rfl) rfl
set_option maxRecDepth 100000 in
theorem wd_3_150 : Cond.code yX5_whyNotPair cX5_whyNotPair 3 (some .int) ∈ TB := tb3 (List.mem_of_getElem? (i := 150) rfl) rfl
set_option maxRecDepth 100000 in
theorem wd_3_151 : Cond.methodLink RX5 174 yX5_bestPlace ∈ TB := tb3 (List.mem_of_getElem? (i := 151) rfl) rfl
set_option maxRecDepth 100000 in
theorem wd_3_152 : Cond.instanceMethod yX5_bestPlace ∈ TB := tb3 (List.mem_of_getElem? (i := 152) rfl) rfl
set_option maxRecDepth 100000 in
theorem wd_3_153 : Cond.selects RX5 yX5_bestPlace yX5_bestPlace ∈ TB := tb3 (List.mem_of_getElem? (i := 153) rfl) rfl
set_option maxRecDepth 100000 in
theorem wd_3_154 : Cond.code yX5_bestPlace cX5_bestPlace 9 (some .int) ∈ TB := tb3 (List.mem_of_getElem? (i := 154) rfl) rfl
set_option maxRecDepth 100000 in
theorem wd_3_155 : Cond.methodLink RX5 228 yX5_unreadableAt ∈ TB := tb3 (List.mem_of_getElem? (i := 155) rfl) rfl
set_option maxRecDepth 100000 in
theorem wd_3_156 : Cond.instanceMethod yX5_unreadableAt ∈ TB := tb3 (List.mem_of_getElem? (i := 156) rfl) rfl
set_option maxRecDepth 100000 in
theorem wd_3_157 : Cond.selects RX5 yX5_unreadableAt yX5_unreadableAt ∈ TB := tb3 (List.mem_of_getElem? (i := 157) rfl) rfl
set_option maxRecDepth 100000 in
theorem wd_3_158 : Cond.code yX5_unreadableAt cX5_unreadableAt 3 (some .int) ∈ TB := tb3 (List.mem_of_getElem? (i := 158) rfl) rfl
set_option maxRecDepth 100000 in
theorem wd_3_159 : Cond.methodLink RX5 224 yX3_takePart ∈ TB := tb3 (List.mem_of_getElem? (i := 159) rfl) rfl
set_option maxRecDepth 100000 in
theorem wd_3_160 : Cond.instanceMethod yX3_takePart ∈ TB := tb3 (List.mem_of_getElem? (i := 160) rfl) rfl
set_option maxRecDepth 100000 in
theorem wd_3_161 : Cond.selects RX3 yX3_takePart yX3_takePart ∈ TB := tb3 (List.mem_of_getElem? (i := 161) rfl) rfl
set_option maxRecDepth 100000 in
theorem wd_3_162 : Cond.code yX3_takePart cX3_takePart 4 none ∈ TB := tb3 (List.mem_of_getElem? (i := 162) rfl) rfl
set_option maxRecDepth 100000 in
theorem wd_3_163 : Cond.methodLink RX7 106 yX5_printAtBest ∈ TB := tb3 (List.mem_of_getElem? (i := 163) rfl) rfl
set_option maxRecDepth 100000 in
theorem wd_3_164 : Cond.instanceMethod yX5_printAtBest ∈ TB := tb3 (List.mem_of_getElem? (i := 164) rfl) rfl
set_option maxRecDepth 100000 in
theorem wd_3_165 : Cond.selects RX5 yX5_printAtBest yX5_printAtBest ∈ TB := tb3 (List.mem_of_getElem? (i := 165) rfl) rfl
set_option maxRecDepth 100000 in
theorem wd_3_166 : Cond.code yX5_printAtBest cX5_printAtBest 4 (some .int) ∈ TB := tb3 (List.mem_of_getElem? (i := 166) rfl) rfl
set_option maxRecDepth 100000 in
theorem wd_3_167 : Cond.methodLink RX5 177 yX5_printAt ∈ TB := tb3 (List.mem_of_getElem? (i := 167) rfl) rfl
set_option maxRecDepth 100000 in
theorem wd_3_197 : Cond.codeWith yL_dotOf cL_dotOf 4 (some .int) [(0, 6, 7, 32), (0, 6, 11, 15)] ∈ TB := tb3 (List.mem_of_getElem? (i := 197) rfl) rfl
set_option maxRecDepth 100000 in
theorem wd_3_198 : Cond.methodLink RL 150 yX7_dot ∈ TB := tb3 (List.mem_of_getElem? (i := 198) rfl) rfl
set_option maxRecDepth 100000 in
theorem wd_3_199 : Cond.instanceMethod yX7_dot ∈ TB := tb3 (List.mem_of_getElem? (i := 199) rfl) rfl
set_option maxRecDepth 100000 in
theorem wd_3_200 : Cond.selects RX7 yX7_dot yX7_dot ∈ TB := tb3 (List.mem_of_getElem? (i := 200) rfl) rfl
set_option maxRecDepth 100000 in
theorem wd_3_201 : Cond.code yX7_dot cX7_dot 3 (some .int) ∈ TB := tb3 (List.mem_of_getElem? (i := 201) rfl) rfl
set_option maxRecDepth 100000 in
theorem wd_3_202 : Cond.methodLink RX7 109 yX5_whyNotDotValue ∈ TB := tb3 (List.mem_of_getElem? (i := 202) rfl) rfl
set_option maxRecDepth 100000 in
theorem wd_3_203 : Cond.instanceMethod yX5_whyNotDotValue ∈ TB := tb3 (List.mem_of_getElem? (i := 203) rfl) rfl
set_option maxRecDepth 100000 in
theorem wd_3_204 : Cond.selects RX5 yX5_whyNotDotValue yX5_whyNotDotValue ∈ TB := tb3 (List.mem_of_getElem? (i := 204) rfl) rfl
set_option maxRecDepth 100000 in
theorem wd_3_205 : Cond.code yX5_whyNotDotValue cX5_whyNotDotValue 3 (some .int) ∈ TB := tb3 (List.mem_of_getElem? (i := 205) rfl) rfl
set_option maxRecDepth 100000 in
theorem wd_3_206 : Cond.methodLink RX7 112 yX5_dotValue ∈ TB := tb3 (List.mem_of_getElem? (i := 206) rfl) rfl
set_option maxRecDepth 100000 in
theorem wd_3_207 : Cond.instanceMethod yX5_dotValue ∈ TB := tb3 (List.mem_of_getElem? (i := 207) rfl) rfl
set_option maxRecDepth 100000 in
theorem wd_3_208 : Cond.selects RX5 yX5_dotValue yX5_dotValue ∈ TB := tb3 (List.mem_of_getElem? (i := 208) rfl) rfl
set_option maxRecDepth 100000 in
theorem wd_3_209 : Cond.code yX5_dotValue cX5_dotValue 3 (some .int) ∈ TB := tb3 (List.mem_of_getElem? (i := 209) rfl) rfl
set_option maxRecDepth 100000 in
theorem wd_3_210 : Cond.methodLink RX5 183 yX5_renterOf ∈ TB := tb3 (List.mem_of_getElem? (i := 210) rfl) rfl
set_option maxRecDepth 100000 in
theorem wd_3_212 : Cond.instanceMethod yX5_renterOf ∈ TB := tb3 (List.mem_of_getElem? (i := 212) rfl) rfl
set_option maxRecDepth 100000 in
theorem wd_3_213 : Cond.code yX5_renterOf cX5_renterOf 3 (some .int) ∈ TB := tb3 (List.mem_of_getElem? (i := 213) rfl) rfl
set_option maxRecDepth 100000 in
theorem wd_3_214 : Cond.methodLink RX5 190 yX3_fadeOf ∈ TB := tb3 (List.mem_of_getElem? (i := 214) rfl) rfl
set_option maxRecDepth 100000 in
theorem wd_3_217 : Cond.codeWith yL_wholeOf cL_wholeOf 3 (some .int) [(0, 5, 6, 15)] ∈ TB := tb3 (List.mem_of_getElem? (i := 217) rfl) rfl
set_option maxRecDepth 100000 in
theorem wd_3_218 : Cond.methodLink RL 162 yX7_whole ∈ TB := tb3 (List.mem_of_getElem? (i := 218) rfl) rfl
set_option maxRecDepth 100000 in
theorem wd_3_219 : Cond.instanceMethod yX7_whole ∈ TB := tb3 (List.mem_of_getElem? (i := 219) rfl) rfl
set_option maxRecDepth 100000 in
theorem wd_3_220 : Cond.selects RX7 yX7_whole yX7_whole ∈ TB := tb3 (List.mem_of_getElem? (i := 220) rfl) rfl
set_option maxRecDepth 100000 in
theorem wd_3_221 : Cond.code yX7_whole cX7_whole 2 (some .int) ∈ TB := tb3 (List.mem_of_getElem? (i := 221) rfl) rfl
set_option maxRecDepth 100000 in
theorem wd_3_222 : Cond.methodLink RX7 145 yX5_wholeValue ∈ TB := tb3 (List.mem_of_getElem? (i := 222) rfl) rfl
set_option maxRecDepth 100000 in
theorem wd_3_223 : Cond.instanceMethod yX5_wholeValue ∈ TB := tb3 (List.mem_of_getElem? (i := 223) rfl) rfl
set_option maxRecDepth 100000 in
theorem wd_3_224 : Cond.selects RX5 yX5_wholeValue yX5_wholeValue ∈ TB := tb3 (List.mem_of_getElem? (i := 224) rfl) rfl
set_option maxRecDepth 100000 in
theorem wd_3_225 : Cond.code yX5_wholeValue cX5_wholeValue 2 (some .int) ∈ TB := tb3 (List.mem_of_getElem? (i := 225) rfl) rfl
set_option maxRecDepth 100000 in
theorem wd_3_226 : Cond.methodLink RX5 197 yX5_allPrinted ∈ TB := tb3 (List.mem_of_getElem? (i := 226) rfl) rfl
set_option maxRecDepth 100000 in
theorem wd_3_228 : Cond.instanceMethod yX5_allPrinted ∈ TB := tb3 (List.mem_of_getElem? (i := 228) rfl) rfl
set_option maxRecDepth 100000 in
theorem wd_3_229 : Cond.code yX5_allPrinted cX5_allPrinted 3 (some .int) ∈ TB := tb3 (List.mem_of_getElem? (i := 229) rfl) rfl
set_option maxRecDepth 100000 in
theorem wd_3_230 : Cond.methodLink RX5 200 yX5_allFailed ∈ TB := tb3 (List.mem_of_getElem? (i := 230) rfl) rfl
set_option maxRecDepth 100000 in
theorem wd_3_232 : Cond.instanceMethod yX5_allFailed ∈ TB := tb3 (List.mem_of_getElem? (i := 232) rfl) rfl
set_option maxRecDepth 100000 in
theorem wd_3_233 : Cond.code yX5_allFailed cX5_allFailed 3 (some .int) ∈ TB := tb3 (List.mem_of_getElem? (i := 233) rfl) rfl
set_option maxRecDepth 100000 in
theorem wd_3_234 : Cond.methodLink RX5 203 yX5_allEarned ∈ TB := tb3 (List.mem_of_getElem? (i := 234) rfl) rfl
set_option maxRecDepth 100000 in
theorem wd_3_236 : Cond.instanceMethod yX5_allEarned ∈ TB := tb3 (List.mem_of_getElem? (i := 236) rfl) rfl
set_option maxRecDepth 100000 in
theorem wd_3_237 : Cond.code yX5_allEarned cX5_allEarned 3 (some .int) ∈ TB := tb3 (List.mem_of_getElem? (i := 237) rfl) rfl
set_option maxRecDepth 100000 in
theorem wd_4_3 : Cond.codeWith yL_rowOf cL_rowOf 4 (some .int) [(0, 6, 7, 32), (0, 6, 11, 15)] ∈ TB := tb4 (List.mem_of_getElem? (i := 3) rfl) rfl
set_option maxRecDepth 100000 in
theorem wd_4_4 : Cond.methodLink RL 156 yX7_row ∈ TB := tb4 (List.mem_of_getElem? (i := 4) rfl) rfl
set_option maxRecDepth 100000 in
theorem wd_4_5 : Cond.instanceMethod yX7_row ∈ TB := tb4 (List.mem_of_getElem? (i := 5) rfl) rfl
set_option maxRecDepth 100000 in
theorem wd_4_6 : Cond.selects RX7 yX7_row yX7_row ∈ TB := tb4 (List.mem_of_getElem? (i := 6) rfl) rfl
set_option maxRecDepth 100000 in
theorem wd_4_7 : Cond.code yX7_row cX7_row 3 (some .int) ∈ TB := tb4 (List.mem_of_getElem? (i := 7) rfl) rfl
set_option maxRecDepth 100000 in
theorem wd_4_8 : Cond.methodLink RX7 115 yX5_whyNotLabelValue ∈ TB := tb4 (List.mem_of_getElem? (i := 8) rfl) rfl
set_option maxRecDepth 100000 in
theorem wd_4_9 : Cond.instanceMethod yX5_whyNotLabelValue ∈ TB := tb4 (List.mem_of_getElem? (i := 9) rfl) rfl
set_option maxRecDepth 100000 in
theorem wd_4_10 : Cond.selects RX5 yX5_whyNotLabelValue yX5_whyNotLabelValue ∈ TB := tb4 (List.mem_of_getElem? (i := 10) rfl) rfl
set_option maxRecDepth 100000 in
theorem wd_4_11 : Cond.code yX5_whyNotLabelValue cX5_whyNotLabelValue 4 (some .int) ∈ TB := tb4 (List.mem_of_getElem? (i := 11) rfl) rfl
set_option maxRecDepth 100000 in
theorem wd_4_14 : Cond.codeWith yL_labelOf cL_labelOf 4 (some .int) [(0, 6, 7, 32), (0, 6, 11, 15)] ∈ TB := tb4 (List.mem_of_getElem? (i := 14) rfl) rfl
set_option maxRecDepth 100000 in
theorem wd_4_15 : Cond.methodLink RL 153 yX7_label ∈ TB := tb4 (List.mem_of_getElem? (i := 15) rfl) rfl
set_option maxRecDepth 100000 in
theorem wd_4_16 : Cond.instanceMethod yX7_label ∈ TB := tb4 (List.mem_of_getElem? (i := 16) rfl) rfl
set_option maxRecDepth 100000 in
theorem wd_4_17 : Cond.selects RX7 yX7_label yX7_label ∈ TB := tb4 (List.mem_of_getElem? (i := 17) rfl) rfl
set_option maxRecDepth 100000 in
theorem wd_4_18 : Cond.code yX7_label cX7_label 3 (some .int) ∈ TB := tb4 (List.mem_of_getElem? (i := 18) rfl) rfl
set_option maxRecDepth 100000 in
theorem wd_4_19 : Cond.methodLink RX7 122 yX4_value ∈ TB := tb4 (List.mem_of_getElem? (i := 19) rfl) rfl
set_option maxRecDepth 100000 in
theorem wd_4_20 : Cond.instanceMethod yX4_value ∈ TB := tb4 (List.mem_of_getElem? (i := 20) rfl) rfl
set_option maxRecDepth 100000 in
theorem wd_4_21 : Cond.selects RX4 yX4_value yX4_value ∈ TB := tb4 (List.mem_of_getElem? (i := 21) rfl) rfl
set_option maxRecDepth 100000 in
theorem wd_4_22 : Cond.code yX4_value cX4_value 2 (some .int) ∈ TB := tb4 (List.mem_of_getElem? (i := 22) rfl) rfl
set_option maxRecDepth 100000 in
theorem wd_4_23 : Cond.methodLink RX4 44 yX4_blackCells ∈ TB := tb4 (List.mem_of_getElem? (i := 23) rfl) rfl
set_option maxRecDepth 100000 in
theorem wd_4_24 : Cond.methodLink RX4 47 yX4_emptyColumns ∈ TB := tb4 (List.mem_of_getElem? (i := 24) rfl) rfl
set_option maxRecDepth 100000 in
theorem wd_4_25 : Cond.instanceMethod yX4_emptyColumns ∈ TB := tb4 (List.mem_of_getElem? (i := 25) rfl) rfl
set_option maxRecDepth 100000 in
theorem wd_4_26 : Cond.selects RX4 yX4_emptyColumns yX4_emptyColumns ∈ TB := tb4 (List.mem_of_getElem? (i := 26) rfl) rfl
set_option maxRecDepth 100000 in
theorem wd_4_27 : Cond.code yX4_emptyColumns cX4_emptyColumns 3 (some .int) ∈ TB := tb4 (List.mem_of_getElem? (i := 27) rfl) rfl
set_option maxRecDepth 100000 in
theorem wd_4_28 : Cond.methodLink RX4 40 yX4_allColumns ∈ TB := tb4 (List.mem_of_getElem? (i := 28) rfl) rfl
set_option maxRecDepth 100000 in
theorem wd_4_31 : Cond.codeWith yL_customerOf cL_customerOf 4 (some .int) [(0, 6, 7, 32), (0, 6, 11, 15)] ∈ TB := tb4 (List.mem_of_getElem? (i := 31) rfl) rfl
set_option maxRecDepth 100000 in
theorem wd_4_32 : Cond.methodLink RL 159 yX7_customer ∈ TB := tb4 (List.mem_of_getElem? (i := 32) rfl) rfl
set_option maxRecDepth 100000 in
theorem wd_4_33 : Cond.instanceMethod yX7_customer ∈ TB := tb4 (List.mem_of_getElem? (i := 33) rfl) rfl
set_option maxRecDepth 100000 in
theorem wd_4_34 : Cond.selects RX7 yX7_customer yX7_customer ∈ TB := tb4 (List.mem_of_getElem? (i := 34) rfl) rfl
set_option maxRecDepth 100000 in
theorem wd_4_35 : Cond.code yX7_customer cX7_customer 3 (some .int) ∈ TB := tb4 (List.mem_of_getElem? (i := 35) rfl) rfl
set_option maxRecDepth 100000 in
theorem wd_4_36 : Cond.methodLink RX7 131 yX5_whyNotCustomerValue ∈ TB := tb4 (List.mem_of_getElem? (i := 36) rfl) rfl
set_option maxRecDepth 100000 in
theorem wd_4_37 : Cond.instanceMethod yX5_whyNotCustomerValue ∈ TB := tb4 (List.mem_of_getElem? (i := 37) rfl) rfl
set_option maxRecDepth 100000 in
theorem wd_4_38 : Cond.selects RX5 yX5_whyNotCustomerValue yX5_whyNotCustomerValue ∈ TB := tb4 (List.mem_of_getElem? (i := 38) rfl) rfl
set_option maxRecDepth 100000 in
theorem wd_4_39 : Cond.code yX5_whyNotCustomerValue cX5_whyNotCustomerValue 3 (some .int) ∈ TB := tb4 (List.mem_of_getElem? (i := 39) rfl) rfl
set_option maxRecDepth 100000 in
theorem wd_4_40 : Cond.methodLink RX7 138 yX2_value ∈ TB := tb4 (List.mem_of_getElem? (i := 40) rfl) rfl
set_option maxRecDepth 100000 in
theorem wd_4_41 : Cond.instanceMethod yX2_value ∈ TB := tb4 (List.mem_of_getElem? (i := 41) rfl) rfl
set_option maxRecDepth 100000 in
theorem wd_4_42 : Cond.selects RX2 yX2_value yX2_value ∈ TB := tb4 (List.mem_of_getElem? (i := 42) rfl) rfl
set_option maxRecDepth 100000 in
theorem wd_4_43 : Cond.code yX2_value cX2_value 2 (some .int) ∈ TB := tb4 (List.mem_of_getElem? (i := 43) rfl) rfl
set_option maxRecDepth 100000 in
theorem wd_4_48 : Cond.methodLink RX7 173 yX3_mostWornDot ∈ TB := tb4 (List.mem_of_getElem? (i := 48) rfl) rfl
set_option maxRecDepth 100000 in
theorem wd_4_49 : Cond.instanceMethod yX3_mostWornDot ∈ TB := tb4 (List.mem_of_getElem? (i := 49) rfl) rfl
set_option maxRecDepth 100000 in
theorem wd_4_50 : Cond.selects RX3 yX3_mostWornDot yX3_mostWornDot ∈ TB := tb4 (List.mem_of_getElem? (i := 50) rfl) rfl
set_option maxRecDepth 100000 in
theorem wd_4_51 : Cond.code yX3_mostWornDot cX3_mostWornDot 3 (some .int) ∈ TB := tb4 (List.mem_of_getElem? (i := 51) rfl) rfl
set_option maxRecDepth 100000 in
theorem wp_1_1 : Cond.selects RX7 yX7_save yX7_save ∈ TB := tbs1 (q := (yX7_save, 4)) (List.mem_of_getElem? (i := 1) rfl)
set_option maxRecDepth 100000 in
theorem wp_1_2 : Cond.selects RX5 yX5_allWear yX5_allWear ∈ TB := tbs1 (q := (yX5_allWear, 8)) (List.mem_of_getElem? (i := 2) rfl)
set_option maxRecDepth 100000 in
theorem wp_1_3 : Cond.selects RX5 yX5_othersRentOneOf yX5_othersRentOneOf ∈ TB := tbs1 (q := (yX5_othersRentOneOf, 8)) (List.mem_of_getElem? (i := 3) rfl)
set_option maxRecDepth 100000 in
theorem wp_1_4 : Cond.selects RX5 yX5_allRented yX5_allRented ∈ TB := tbs1 (q := (yX5_allRented, 8)) (List.mem_of_getElem? (i := 4) rfl)
set_option maxRecDepth 100000 in
theorem wp_1_5 : Cond.selects RX3 yX3_burn yX3_burn ∈ TB := tbs1 (q := (yX3_burn, 5)) (List.mem_of_getElem? (i := 5) rfl)
set_option maxRecDepth 100000 in
theorem wp_1_6 : Cond.selects RX5 yX5_book yX5_book ∈ TB := tbs1 (q := (yX5_book, 8)) (List.mem_of_getElem? (i := 6) rfl)
set_option maxRecDepth 100000 in
theorem wp_1_7 : Cond.selects RX5 yX5_renterOf yX5_renterOf ∈ TB := tbs1 (q := (yX5_renterOf, 8)) (List.mem_of_getElem? (i := 7) rfl)
set_option maxRecDepth 100000 in
theorem wp_1_8 : Cond.selects RX5 yX5_allPrinted yX5_allPrinted ∈ TB := tbs1 (q := (yX5_allPrinted, 8)) (List.mem_of_getElem? (i := 8) rfl)
set_option maxRecDepth 100000 in
theorem wp_1_9 : Cond.selects RX5 yX5_allFailed yX5_allFailed ∈ TB := tbs1 (q := (yX5_allFailed, 8)) (List.mem_of_getElem? (i := 9) rfl)
set_option maxRecDepth 100000 in
theorem wp_1_10 : Cond.selects RX5 yX5_allEarned yX5_allEarned ∈ TB := tbs1 (q := (yX5_allEarned, 8)) (List.mem_of_getElem? (i := 10) rfl)
theorem mm_J6_bitCount_0f7a4 : Cond.static yJ6_bitCount_0f7a4 ∈ TB ∧ Cond.initialized yJ6_bitCount_0f7a4.cls ∈ TB ∧ Cond.code yJ6_bitCount_0f7a4 cJ6_bitCount_0f7a4 1 (some .int) ∈ TB := ⟨wd_3_99, wd_1_16, wd_3_100⟩
theorem mm_X2_rentNothing : Cond.instanceMethod yX2_rentNothing ∈ TB ∧ Cond.selects RX2 yX2_rentNothing yX2_rentNothing ∈ TB ∧ Cond.initialized RX2 ∈ TB ∧ Cond.code yX2_rentNothing cX2_rentNothing 1 none ∈ TB := ⟨wd_2_130, wd_2_131, wd_1_9, wd_2_132⟩
theorem mm_X2_rented : Cond.instanceMethod yX2_rented ∈ TB ∧ Cond.selects RX2 yX2_rented yX2_rented ∈ TB ∧ Cond.initialized RX2 ∈ TB ∧ Cond.code yX2_rented cX2_rented 1 (some .int) ∈ TB := ⟨wd_3_32, wd_3_33, wd_1_9, wd_3_34⟩
theorem mm_X2_rentsAllOf : Cond.instanceMethod yX2_rentsAllOf ∈ TB ∧ Cond.selects RX2 yX2_rentsAllOf yX2_rentsAllOf ∈ TB ∧ Cond.initialized RX2 ∈ TB ∧ Cond.code yX2_rentsAllOf cX2_rentsAllOf 3 (some .boolean) ∈ TB := ⟨wd_3_113, wd_3_114, wd_1_9, wd_3_115⟩
theorem mm_X2_rentsOneOf : Cond.instanceMethod yX2_rentsOneOf ∈ TB ∧ Cond.selects RX2 yX2_rentsOneOf yX2_rentsOneOf ∈ TB ∧ Cond.initialized RX2 ∈ TB ∧ Cond.code yX2_rentsOneOf cX2_rentsOneOf 3 (some .boolean) ∈ TB := ⟨wd_3_55, wd_3_56, wd_1_9, wd_3_57⟩
theorem mm_X2_takeOver : Cond.instanceMethod yX2_takeOver ∈ TB ∧ Cond.selects RX2 yX2_takeOver yX2_takeOver ∈ TB ∧ Cond.initialized RX2 ∈ TB ∧ Cond.code yX2_takeOver cX2_takeOver 2 none ∈ TB := ⟨wd_2_106, wd_2_107, wd_1_9, wd_2_108⟩
theorem mm_X2_value : Cond.instanceMethod yX2_value ∈ TB ∧ Cond.selects RX2 yX2_value yX2_value ∈ TB ∧ Cond.initialized RX2 ∈ TB ∧ Cond.code yX2_value cX2_value 2 (some .int) ∈ TB := ⟨wd_4_41, wd_4_42, wd_1_9, wd_4_43⟩
theorem mm_X3_burn : Cond.instanceMethod yX3_burn ∈ TB ∧ Cond.selects RX3 yX3_burn yX3_burn ∈ TB ∧ Cond.initialized RX3 ∈ TB ∧ Cond.code yX3_burn cX3_burn 4 none ∈ TB := ⟨wd_3_129, wp_1_5, wd_1_5, wd_3_130⟩
theorem mm_X3_fadeOf : Cond.instanceMethod yX3_fadeOf ∈ TB ∧ Cond.selects RX3 yX3_fadeOf yX3_fadeOf ∈ TB ∧ Cond.initialized RX3 ∈ TB ∧ Cond.code yX3_fadeOf cX3_fadeOf 5 (some .int) ∈ TB := ⟨wd_3_124, wd_3_125, wd_1_5, wd_3_126⟩
theorem mm_X3_heatSum : Cond.instanceMethod yX3_heatSum ∈ TB ∧ Cond.selects RX3 yX3_heatSum yX3_heatSum ∈ TB ∧ Cond.initialized RX3 ∈ TB ∧ Cond.code yX3_heatSum cX3_heatSum 3 (some .int) ∈ TB := ⟨wd_2_235, wd_2_236, wd_1_5, wd_2_237⟩
theorem mm_X3_lose : Cond.instanceMethod yX3_lose ∈ TB ∧ Cond.selects RX3 yX3_lose yX3_lose ∈ TB ∧ Cond.initialized RX3 ∈ TB ∧ Cond.code yX3_lose cX3_lose 3 none ∈ TB := ⟨wd_2_231, wd_2_232, wd_1_5, wd_2_233⟩
theorem mm_X3_mostWornDot : Cond.instanceMethod yX3_mostWornDot ∈ TB ∧ Cond.selects RX3 yX3_mostWornDot yX3_mostWornDot ∈ TB ∧ Cond.initialized RX3 ∈ TB ∧ Cond.code yX3_mostWornDot cX3_mostWornDot 3 (some .int) ∈ TB := ⟨wd_4_49, wd_4_50, wd_1_5, wd_4_51⟩
theorem mm_X3_printRows : Cond.instanceMethod yX3_printRows ∈ TB ∧ Cond.selects RX3 yX3_printRows yX3_printRows ∈ TB ∧ Cond.initialized RX3 ∈ TB ∧ Cond.code yX3_printRows cX3_printRows 9 (some .int) ∈ TB := ⟨wd_3_120, wd_3_121, wd_1_5, wd_3_122⟩
theorem mm_X3_renew : Cond.instanceMethod yX3_renew ∈ TB ∧ Cond.selects RX3 yX3_renew yX3_renew ∈ TB ∧ Cond.initialized RX3 ∈ TB ∧ Cond.code yX3_renew cX3_renew 2 none ∈ TB := ⟨wd_2_126, wd_2_127, wd_1_5, wd_2_128⟩
theorem mm_X3_renewAll : Cond.instanceMethod yX3_renewAll ∈ TB ∧ Cond.selects RX3 yX3_renewAll yX3_renewAll ∈ TB ∧ Cond.initialized RX3 ∈ TB ∧ Cond.code yX3_renewAll cX3_renewAll 3 none ∈ TB := ⟨wd_2_122, wd_2_123, wd_1_5, wd_2_124⟩
theorem mm_X3_takeOver : Cond.instanceMethod yX3_takeOver ∈ TB ∧ Cond.selects RX3 yX3_takeOver yX3_takeOver ∈ TB ∧ Cond.initialized RX3 ∈ TB ∧ Cond.code yX3_takeOver cX3_takeOver 2 none ∈ TB := ⟨wd_2_96, wd_2_97, wd_1_5, wd_2_98⟩
theorem mm_X3_takePart : Cond.instanceMethod yX3_takePart ∈ TB ∧ Cond.selects RX3 yX3_takePart yX3_takePart ∈ TB ∧ Cond.initialized RX3 ∈ TB ∧ Cond.code yX3_takePart cX3_takePart 4 none ∈ TB := ⟨wd_3_160, wd_3_161, wd_1_5, wd_3_162⟩
theorem mm_X3_wearSum : Cond.instanceMethod yX3_wearSum ∈ TB ∧ Cond.selects RX3 yX3_wearSum yX3_wearSum ∈ TB ∧ Cond.initialized RX3 ∈ TB ∧ Cond.code yX3_wearSum cX3_wearSum 5 (some .int) ∈ TB := ⟨wd_2_118, wd_2_119, wd_1_5, wd_2_120⟩
theorem mm_X4_allColumns : Cond.instanceMethod yX4_allColumns ∈ TB ∧ Cond.selects RX4 yX4_allColumns yX4_allColumns ∈ TB ∧ Cond.initialized RX4 ∈ TB ∧ Cond.code yX4_allColumns cX4_allColumns 1 (some .int) ∈ TB := ⟨wd_2_187, wd_2_188, wd_1_8, wd_2_189⟩
theorem mm_X4_blackCells : Cond.instanceMethod yX4_blackCells ∈ TB ∧ Cond.selects RX4 yX4_blackCells yX4_blackCells ∈ TB ∧ Cond.initialized RX4 ∈ TB ∧ Cond.code yX4_blackCells cX4_blackCells 3 (some .int) ∈ TB := ⟨wd_3_95, wd_3_96, wd_1_8, wd_3_97⟩
theorem mm_X4_emptyColumns : Cond.instanceMethod yX4_emptyColumns ∈ TB ∧ Cond.selects RX4 yX4_emptyColumns yX4_emptyColumns ∈ TB ∧ Cond.initialized RX4 ∈ TB ∧ Cond.code yX4_emptyColumns cX4_emptyColumns 3 (some .int) ∈ TB := ⟨wd_4_25, wd_4_26, wd_1_8, wd_4_27⟩
theorem mm_X4_takeOver : Cond.instanceMethod yX4_takeOver ∈ TB ∧ Cond.selects RX4 yX4_takeOver yX4_takeOver ∈ TB ∧ Cond.initialized RX4 ∈ TB ∧ Cond.code yX4_takeOver cX4_takeOver 2 none ∈ TB := ⟨wd_2_101, wd_2_102, wd_1_8, wd_2_103⟩
theorem mm_X4_value : Cond.instanceMethod yX4_value ∈ TB ∧ Cond.selects RX4 yX4_value yX4_value ∈ TB ∧ Cond.initialized RX4 ∈ TB ∧ Cond.code yX4_value cX4_value 2 (some .int) ∈ TB := ⟨wd_4_20, wd_4_21, wd_1_8, wd_4_22⟩
theorem mm_X5_allEarned : Cond.instanceMethod yX5_allEarned ∈ TB ∧ Cond.selects RX5 yX5_allEarned yX5_allEarned ∈ TB ∧ Cond.initialized RX5 ∈ TB ∧ Cond.code yX5_allEarned cX5_allEarned 3 (some .int) ∈ TB := ⟨wd_3_236, wp_1_10, wd_1_6, wd_3_237⟩
theorem mm_X5_allFailed : Cond.instanceMethod yX5_allFailed ∈ TB ∧ Cond.selects RX5 yX5_allFailed yX5_allFailed ∈ TB ∧ Cond.initialized RX5 ∈ TB ∧ Cond.code yX5_allFailed cX5_allFailed 3 (some .int) ∈ TB := ⟨wd_3_232, wp_1_9, wd_1_6, wd_3_233⟩
theorem mm_X5_allPrinted : Cond.instanceMethod yX5_allPrinted ∈ TB ∧ Cond.selects RX5 yX5_allPrinted yX5_allPrinted ∈ TB ∧ Cond.initialized RX5 ∈ TB ∧ Cond.code yX5_allPrinted cX5_allPrinted 3 (some .int) ∈ TB := ⟨wd_3_228, wp_1_8, wd_1_6, wd_3_229⟩
theorem mm_X5_allRented : Cond.instanceMethod yX5_allRented ∈ TB ∧ Cond.selects RX5 yX5_allRented yX5_allRented ∈ TB ∧ Cond.initialized RX5 ∈ TB ∧ Cond.code yX5_allRented cX5_allRented 3 (some .int) ∈ TB := ⟨wd_3_64, wp_1_4, wd_1_6, wd_3_65⟩
theorem mm_X5_allWear : Cond.instanceMethod yX5_allWear ∈ TB ∧ Cond.selects RX5 yX5_allWear yX5_allWear ∈ TB ∧ Cond.initialized RX5 ∈ TB ∧ Cond.code yX5_allWear cX5_allWear 1 (some .int) ∈ TB := ⟨wd_2_115, wp_1_2, wd_1_6, wd_2_116⟩
theorem mm_X5_bestPlace : Cond.instanceMethod yX5_bestPlace ∈ TB ∧ Cond.selects RX5 yX5_bestPlace yX5_bestPlace ∈ TB ∧ Cond.initialized RX5 ∈ TB ∧ Cond.code yX5_bestPlace cX5_bestPlace 9 (some .int) ∈ TB := ⟨wd_3_152, wd_3_153, wd_1_6, wd_3_154⟩
theorem mm_X5_book : Cond.instanceMethod yX5_book ∈ TB ∧ Cond.selects RX5 yX5_book yX5_book ∈ TB ∧ Cond.initialized RX5 ∈ TB ∧ Cond.code yX5_book cX5_book 5 none ∈ TB := ⟨wd_3_134, wp_1_6, wd_1_6, wd_3_135⟩
theorem mm_X5_changeRow : Cond.instanceMethod yX5_changeRow ∈ TB ∧ Cond.selects RX5 yX5_changeRow yX5_changeRow ∈ TB ∧ Cond.initialized RX5 ∈ TB ∧ Cond.code yX5_changeRow cX5_changeRow 5 (some .int) ∈ TB := ⟨wd_2_191, wd_2_192, wd_1_6, wd_2_193⟩
theorem mm_X5_changeSetting : Cond.instanceMethod yX5_changeSetting ∈ TB ∧ Cond.selects RX5 yX5_changeSetting yX5_changeSetting ∈ TB ∧ Cond.initialized RX5 ∈ TB ∧ Cond.code yX5_changeSetting cX5_changeSetting 4 (some .int) ∈ TB := ⟨wd_2_150, wd_2_151, wd_1_6, wd_2_152⟩
theorem mm_X5_dotValue : Cond.instanceMethod yX5_dotValue ∈ TB ∧ Cond.selects RX5 yX5_dotValue yX5_dotValue ∈ TB ∧ Cond.initialized RX5 ∈ TB ∧ Cond.code yX5_dotValue cX5_dotValue 3 (some .int) ∈ TB := ⟨wd_3_207, wd_3_208, wd_1_6, wd_3_209⟩
theorem mm_X5_endLet : Cond.instanceMethod yX5_endLet ∈ TB ∧ Cond.selects RX5 yX5_endLet yX5_endLet ∈ TB ∧ Cond.initialized RX5 ∈ TB ∧ Cond.code yX5_endLet cX5_endLet 3 (some .int) ∈ TB := ⟨wd_3_36, wd_3_37, wd_1_6, wd_3_38⟩
theorem mm_X5_hasCustomer : Cond.instanceMethod yX5_hasCustomer ∈ TB ∧ Cond.selects RX5 yX5_hasCustomer yX5_hasCustomer ∈ TB ∧ Cond.initialized RX5 ∈ TB ∧ Cond.code yX5_hasCustomer cX5_hasCustomer 2 (some .boolean) ∈ TB := ⟨wd_3_28, wd_3_29, wd_1_6, wd_3_30⟩
theorem mm_X5_hasDot : Cond.instanceMethod yX5_hasDot ∈ TB ∧ Cond.selects RX5 yX5_hasDot yX5_hasDot ∈ TB ∧ Cond.initialized RX5 ∈ TB ∧ Cond.code yX5_hasDot cX5_hasDot 2 (some .boolean) ∈ TB := ⟨wd_2_207, wd_2_208, wd_1_6, wd_2_209⟩
theorem mm_X5_hasLabel : Cond.instanceMethod yX5_hasLabel ∈ TB ∧ Cond.selects RX5 yX5_hasLabel yX5_hasLabel ∈ TB ∧ Cond.initialized RX5 ∈ TB ∧ Cond.code yX5_hasLabel cX5_hasLabel 2 (some .boolean) ∈ TB := ⟨wd_2_183, wd_2_184, wd_1_6, wd_2_185⟩
theorem mm_X5_let : Cond.instanceMethod yX5_let ∈ TB ∧ Cond.selects RX5 yX5_let yX5_let ∈ TB ∧ Cond.initialized RX5 ∈ TB ∧ Cond.code yX5_let cX5_let 4 (some .int) ∈ TB := ⟨wd_3_59, wd_3_60, wd_1_6, wd_3_61⟩
theorem mm_X5_newCustomer : Cond.instanceMethod yX5_newCustomer ∈ TB ∧ Cond.selects RX5 yX5_newCustomer yX5_newCustomer ∈ TB ∧ Cond.initialized RX5 ∈ TB ∧ Cond.code yX5_newCustomer cX5_newCustomer 1 (some .int) ∈ TB := ⟨wd_3_10, wd_3_11, wd_1_6, wd_3_12⟩
theorem mm_X5_newDot : Cond.instanceMethod yX5_newDot ∈ TB ∧ Cond.selects RX5 yX5_newDot yX5_newDot ∈ TB ∧ Cond.initialized RX5 ∈ TB ∧ Cond.code yX5_newDot cX5_newDot 3 (some .int) ∈ TB := ⟨wd_2_211, wd_2_212, wd_1_6, wd_2_213⟩
theorem mm_X5_newHead : Cond.instanceMethod yX5_newHead ∈ TB ∧ Cond.selects RX5 yX5_newHead yX5_newHead ∈ TB ∧ Cond.initialized RX5 ∈ TB ∧ Cond.code yX5_newHead cX5_newHead 4 (some .int) ∈ TB := ⟨wd_2_110, wd_2_111, wd_1_6, wd_2_112⟩
theorem mm_X5_newLabel : Cond.instanceMethod yX5_newLabel ∈ TB ∧ Cond.selects RX5 yX5_newLabel yX5_newLabel ∈ TB ∧ Cond.initialized RX5 ∈ TB ∧ Cond.code yX5_newLabel cX5_newLabel 3 (some .int) ∈ TB := ⟨wd_2_166, wd_2_167, wd_1_6, wd_2_168⟩
theorem mm_X5_othersRentOneOf : Cond.instanceMethod yX5_othersRentOneOf ∈ TB ∧ Cond.selects RX5 yX5_othersRentOneOf yX5_othersRentOneOf ∈ TB ∧ Cond.initialized RX5 ∈ TB ∧ Cond.code yX5_othersRentOneOf cX5_othersRentOneOf 5 (some .boolean) ∈ TB := ⟨wd_3_52, wp_1_3, wd_1_6, wd_3_53⟩
theorem mm_X5_passLines : Cond.instanceMethod yX5_passLines ∈ TB ∧ Cond.selects RX5 yX5_passLines yX5_passLines ∈ TB ∧ Cond.initialized RX5 ∈ TB ∧ Cond.code yX5_passLines cX5_passLines 2 (some .int) ∈ TB := ⟨wd_2_227, wd_2_228, wd_1_6, wd_2_229⟩
theorem mm_X5_priceAt : Cond.instanceMethod yX5_priceAt ∈ TB ∧ Cond.selects RX5 yX5_priceAt yX5_priceAt ∈ TB ∧ Cond.initialized RX5 ∈ TB ∧ Cond.code yX5_priceAt cX5_priceAt 8 (some .int) ∈ TB := ⟨wd_3_109, wd_3_110, wd_1_6, wd_3_111⟩
theorem mm_X5_printAt : Cond.instanceMethod yX5_printAt ∈ TB ∧ Cond.selects RX5 yX5_printAt yX5_printAt ∈ TB ∧ Cond.initialized RX5 ∈ TB ∧ Cond.code yX5_printAt cX5_printAt 6 (some .int) ∈ TB := ⟨wd_3_105, wd_3_106, wd_1_6, wd_3_107⟩
theorem mm_X5_printAtBest : Cond.instanceMethod yX5_printAtBest ∈ TB ∧ Cond.selects RX5 yX5_printAtBest yX5_printAtBest ∈ TB ∧ Cond.initialized RX5 ∈ TB ∧ Cond.code yX5_printAtBest cX5_printAtBest 4 (some .int) ∈ TB := ⟨wd_3_164, wd_3_165, wd_1_6, wd_3_166⟩
theorem mm_X5_reasonAt : Cond.instanceMethod yX5_reasonAt ∈ TB ∧ Cond.selects RX5 yX5_reasonAt yX5_reasonAt ∈ TB ∧ Cond.initialized RX5 ∈ TB ∧ Cond.code yX5_reasonAt cX5_reasonAt 5 (some .int) ∈ TB := ⟨wd_3_91, wd_3_92, wd_1_6, wd_3_93⟩
theorem mm_X5_renterOf : Cond.instanceMethod yX5_renterOf ∈ TB ∧ Cond.selects RX5 yX5_renterOf yX5_renterOf ∈ TB ∧ Cond.initialized RX5 ∈ TB ∧ Cond.code yX5_renterOf cX5_renterOf 3 (some .int) ∈ TB := ⟨wd_3_212, wp_1_7, wd_1_6, wd_3_213⟩
theorem mm_X5_takeOver : Cond.instanceMethod yX5_takeOver ∈ TB ∧ Cond.selects RX5 yX5_takeOver yX5_takeOver ∈ TB ∧ Cond.initialized RX5 ∈ TB ∧ Cond.code yX5_takeOver cX5_takeOver 3 none ∈ TB := ⟨wd_2_92, wd_2_93, wd_1_6, wd_2_94⟩
theorem mm_X5_unreadableAt : Cond.instanceMethod yX5_unreadableAt ∈ TB ∧ Cond.selects RX5 yX5_unreadableAt yX5_unreadableAt ∈ TB ∧ Cond.initialized RX5 ∈ TB ∧ Cond.code yX5_unreadableAt cX5_unreadableAt 3 (some .int) ∈ TB := ⟨wd_3_156, wd_3_157, wd_1_6, wd_3_158⟩
theorem mm_X5_wholeValue : Cond.instanceMethod yX5_wholeValue ∈ TB ∧ Cond.selects RX5 yX5_wholeValue yX5_wholeValue ∈ TB ∧ Cond.initialized RX5 ∈ TB ∧ Cond.code yX5_wholeValue cX5_wholeValue 2 (some .int) ∈ TB := ⟨wd_3_223, wd_3_224, wd_1_6, wd_3_225⟩
theorem mm_X5_whyNotAskAbout : Cond.instanceMethod yX5_whyNotAskAbout ∈ TB ∧ Cond.selects RX5 yX5_whyNotAskAbout yX5_whyNotAskAbout ∈ TB ∧ Cond.initialized RX5 ∈ TB ∧ Cond.code yX5_whyNotAskAbout cX5_whyNotAskAbout 4 (some .int) ∈ TB := ⟨wd_3_87, wd_3_88, wd_1_6, wd_3_89⟩
theorem mm_X5_whyNotChangeRow : Cond.instanceMethod yX5_whyNotChangeRow ∈ TB ∧ Cond.selects RX5 yX5_whyNotChangeRow yX5_whyNotChangeRow ∈ TB ∧ Cond.initialized RX5 ∈ TB ∧ Cond.code yX5_whyNotChangeRow cX5_whyNotChangeRow 5 (some .int) ∈ TB := ⟨wd_2_179, wd_2_180, wd_1_6, wd_2_181⟩
theorem mm_X5_whyNotChangeSetting : Cond.instanceMethod yX5_whyNotChangeSetting ∈ TB ∧ Cond.selects RX5 yX5_whyNotChangeSetting yX5_whyNotChangeSetting ∈ TB ∧ Cond.initialized RX5 ∈ TB ∧ Cond.code yX5_whyNotChangeSetting cX5_whyNotChangeSetting 3 (some .int) ∈ TB := ⟨wd_2_142, wd_2_143, wd_1_6, wd_2_144⟩
theorem mm_X5_whyNotCustomerValue : Cond.instanceMethod yX5_whyNotCustomerValue ∈ TB ∧ Cond.selects RX5 yX5_whyNotCustomerValue yX5_whyNotCustomerValue ∈ TB ∧ Cond.initialized RX5 ∈ TB ∧ Cond.code yX5_whyNotCustomerValue cX5_whyNotCustomerValue 3 (some .int) ∈ TB := ⟨wd_4_37, wd_4_38, wd_1_6, wd_4_39⟩
theorem mm_X5_whyNotDotValue : Cond.instanceMethod yX5_whyNotDotValue ∈ TB ∧ Cond.selects RX5 yX5_whyNotDotValue yX5_whyNotDotValue ∈ TB ∧ Cond.initialized RX5 ∈ TB ∧ Cond.code yX5_whyNotDotValue cX5_whyNotDotValue 3 (some .int) ∈ TB := ⟨wd_3_203, wd_3_204, wd_1_6, wd_3_205⟩
theorem mm_X5_whyNotEndLet : Cond.instanceMethod yX5_whyNotEndLet ∈ TB ∧ Cond.selects RX5 yX5_whyNotEndLet yX5_whyNotEndLet ∈ TB ∧ Cond.initialized RX5 ∈ TB ∧ Cond.code yX5_whyNotEndLet cX5_whyNotEndLet 2 (some .int) ∈ TB := ⟨wd_3_24, wd_3_25, wd_1_6, wd_3_26⟩
theorem mm_X5_whyNotLabelValue : Cond.instanceMethod yX5_whyNotLabelValue ∈ TB ∧ Cond.selects RX5 yX5_whyNotLabelValue yX5_whyNotLabelValue ∈ TB ∧ Cond.initialized RX5 ∈ TB ∧ Cond.code yX5_whyNotLabelValue cX5_whyNotLabelValue 4 (some .int) ∈ TB := ⟨wd_4_9, wd_4_10, wd_1_6, wd_4_11⟩
theorem mm_X5_whyNotLet : Cond.instanceMethod yX5_whyNotLet ∈ TB ∧ Cond.selects RX5 yX5_whyNotLet yX5_whyNotLet ∈ TB ∧ Cond.initialized RX5 ∈ TB ∧ Cond.code yX5_whyNotLet cX5_whyNotLet 4 (some .int) ∈ TB := ⟨wd_3_47, wd_3_48, wd_1_6, wd_3_49⟩
theorem mm_X5_whyNotNewCustomer : Cond.instanceMethod yX5_whyNotNewCustomer ∈ TB ∧ Cond.selects RX5 yX5_whyNotNewCustomer yX5_whyNotNewCustomer ∈ TB ∧ Cond.initialized RX5 ∈ TB ∧ Cond.code yX5_whyNotNewCustomer cX5_whyNotNewCustomer 1 (some .int) ∈ TB := ⟨wd_3_6, wd_3_7, wd_1_6, wd_3_8⟩
theorem mm_X5_whyNotNewDot : Cond.instanceMethod yX5_whyNotNewDot ∈ TB ∧ Cond.selects RX5 yX5_whyNotNewDot yX5_whyNotNewDot ∈ TB ∧ Cond.initialized RX5 ∈ TB ∧ Cond.code yX5_whyNotNewDot cX5_whyNotNewDot 2 (some .int) ∈ TB := ⟨wd_2_203, wd_2_204, wd_1_6, wd_2_205⟩
theorem mm_X5_whyNotNewHead : Cond.instanceMethod yX5_whyNotNewHead ∈ TB ∧ Cond.selects RX5 yX5_whyNotNewHead yX5_whyNotNewHead ∈ TB ∧ Cond.initialized RX5 ∈ TB ∧ Cond.code yX5_whyNotNewHead cX5_whyNotNewHead 2 (some .int) ∈ TB := ⟨wd_1_221, wd_1_222, wd_1_6, wd_1_223⟩
theorem mm_X5_whyNotNewLabel : Cond.instanceMethod yX5_whyNotNewLabel ∈ TB ∧ Cond.selects RX5 yX5_whyNotNewLabel yX5_whyNotNewLabel ∈ TB ∧ Cond.initialized RX5 ∈ TB ∧ Cond.code yX5_whyNotNewLabel cX5_whyNotNewLabel 3 (some .int) ∈ TB := ⟨wd_2_162, wd_2_163, wd_1_6, wd_2_164⟩
theorem mm_X5_whyNotPair : Cond.instanceMethod yX5_whyNotPair ∈ TB ∧ Cond.selects RX5 yX5_whyNotPair yX5_whyNotPair ∈ TB ∧ Cond.initialized RX5 ∈ TB ∧ Cond.code yX5_whyNotPair cX5_whyNotPair 3 (some .int) ∈ TB := ⟨wd_3_148, wd_3_149, wd_1_6, wd_3_150⟩
theorem mm_X5_whyNotPassLines : Cond.instanceMethod yX5_whyNotPassLines ∈ TB ∧ Cond.selects RX5 yX5_whyNotPassLines yX5_whyNotPassLines ∈ TB ∧ Cond.initialized RX5 ∈ TB ∧ Cond.code yX5_whyNotPassLines cX5_whyNotPassLines 2 (some .int) ∈ TB := ⟨wd_2_223, wd_2_224, wd_1_6, wd_2_225⟩
theorem mm_X5_whyNotPrintAt : Cond.instanceMethod yX5_whyNotPrintAt ∈ TB ∧ Cond.selects RX5 yX5_whyNotPrintAt yX5_whyNotPrintAt ∈ TB ∧ Cond.initialized RX5 ∈ TB ∧ Cond.code yX5_whyNotPrintAt cX5_whyNotPrintAt 5 (some .int) ∈ TB := ⟨wd_3_83, wd_3_84, wd_1_6, wd_3_85⟩
theorem mm_X5_whyNotPrintAtBest : Cond.instanceMethod yX5_whyNotPrintAtBest ∈ TB ∧ Cond.selects RX5 yX5_whyNotPrintAtBest yX5_whyNotPrintAtBest ∈ TB ∧ Cond.initialized RX5 ∈ TB ∧ Cond.code yX5_whyNotPrintAtBest cX5_whyNotPrintAtBest 3 (some .int) ∈ TB := ⟨wd_3_144, wd_3_145, wd_1_6, wd_3_146⟩
theorem mm_X7_addCustomer : Cond.instanceMethod yX7_addCustomer ∈ TB ∧ Cond.selects RX7 yX7_addCustomer yX7_addCustomer ∈ TB ∧ Cond.initialized RX7 ∈ TB ∧ Cond.code yX7_addCustomer cX7_addCustomer 1 (some .int) ∈ TB := ⟨wd_3_2, wd_3_3, wd_1_1, wd_3_4⟩
theorem mm_X7_addLabel : Cond.instanceMethod yX7_addLabel ∈ TB ∧ Cond.selects RX7 yX7_addLabel yX7_addLabel ∈ TB ∧ Cond.initialized RX7 ∈ TB ∧ Cond.code yX7_addLabel cX7_addLabel 3 (some .int) ∈ TB := ⟨wd_2_158, wd_2_159, wd_1_1, wd_2_160⟩
theorem mm_X7_begin : Cond.instanceMethod yX7_begin ∈ TB ∧ Cond.selects RX7 yX7_begin yX7_begin ∈ TB ∧ Cond.initialized RX7 ∈ TB ∧ Cond.code yX7_begin cX7_begin 2 (some .int) ∈ TB := ⟨wd_1_217, wd_1_218, wd_1_1, wd_1_219⟩
theorem mm_X7_cool : Cond.instanceMethod yX7_cool ∈ TB ∧ Cond.selects RX7 yX7_cool yX7_cool ∈ TB ∧ Cond.initialized RX7 ∈ TB ∧ Cond.code yX7_cool cX7_cool 2 (some .int) ∈ TB := ⟨wd_2_219, wd_2_220, wd_1_1, wd_2_221⟩
theorem mm_X7_customer : Cond.instanceMethod yX7_customer ∈ TB ∧ Cond.selects RX7 yX7_customer yX7_customer ∈ TB ∧ Cond.initialized RX7 ∈ TB ∧ Cond.code yX7_customer cX7_customer 3 (some .int) ∈ TB := ⟨wd_4_33, wd_4_34, wd_1_1, wd_4_35⟩
theorem mm_X7_dot : Cond.instanceMethod yX7_dot ∈ TB ∧ Cond.selects RX7 yX7_dot yX7_dot ∈ TB ∧ Cond.initialized RX7 ∈ TB ∧ Cond.code yX7_dot cX7_dot 3 (some .int) ∈ TB := ⟨wd_3_199, wd_3_200, wd_1_1, wd_3_201⟩
theorem mm_X7_endRent : Cond.instanceMethod yX7_endRent ∈ TB ∧ Cond.selects RX7 yX7_endRent yX7_endRent ∈ TB ∧ Cond.initialized RX7 ∈ TB ∧ Cond.code yX7_endRent cX7_endRent 2 (some .int) ∈ TB := ⟨wd_3_20, wd_3_21, wd_1_1, wd_3_22⟩
theorem mm_X7_label : Cond.instanceMethod yX7_label ∈ TB ∧ Cond.selects RX7 yX7_label yX7_label ∈ TB ∧ Cond.initialized RX7 ∈ TB ∧ Cond.code yX7_label cX7_label 3 (some .int) ∈ TB := ⟨wd_4_16, wd_4_17, wd_1_1, wd_4_18⟩
theorem mm_X7_print : Cond.instanceMethod yX7_print ∈ TB ∧ Cond.selects RX7 yX7_print yX7_print ∈ TB ∧ Cond.initialized RX7 ∈ TB ∧ Cond.code yX7_print cX7_print 4 (some .int) ∈ TB := ⟨wd_3_79, wd_3_80, wd_1_1, wd_3_81⟩
theorem mm_X7_printBest : Cond.instanceMethod yX7_printBest ∈ TB ∧ Cond.selects RX7 yX7_printBest yX7_printBest ∈ TB ∧ Cond.initialized RX7 ∈ TB ∧ Cond.code yX7_printBest cX7_printBest 3 (some .int) ∈ TB := ⟨wd_3_140, wd_3_141, wd_1_1, wd_3_142⟩
theorem mm_X7_refuse : Cond.static yX7_refuse ∈ TB ∧ Cond.initialized yX7_refuse.cls ∈ TB ∧ Cond.code yX7_refuse cX7_refuse 1 none ∈ TB := ⟨wd_1_225, wd_1_1, wd_1_226⟩
theorem mm_X7_rent : Cond.instanceMethod yX7_rent ∈ TB ∧ Cond.selects RX7 yX7_rent yX7_rent ∈ TB ∧ Cond.initialized RX7 ∈ TB ∧ Cond.code yX7_rent cX7_rent 4 (some .int) ∈ TB := ⟨wd_3_43, wd_3_44, wd_1_1, wd_3_45⟩
theorem mm_X7_replace : Cond.instanceMethod yX7_replace ∈ TB ∧ Cond.selects RX7 yX7_replace yX7_replace ∈ TB ∧ Cond.initialized RX7 ∈ TB ∧ Cond.code yX7_replace cX7_replace 2 (some .int) ∈ TB := ⟨wd_2_199, wd_2_200, wd_1_1, wd_2_201⟩
theorem mm_X7_row : Cond.instanceMethod yX7_row ∈ TB ∧ Cond.selects RX7 yX7_row yX7_row ∈ TB ∧ Cond.initialized RX7 ∈ TB ∧ Cond.code yX7_row cX7_row 3 (some .int) ∈ TB := ⟨wd_4_5, wd_4_6, wd_1_1, wd_4_7⟩
theorem mm_X7_save : Cond.instanceMethod yX7_save ∈ TB ∧ Cond.selects RX7 yX7_save yX7_save ∈ TB ∧ Cond.initialized RX7 ∈ TB ∧ Cond.code yX7_save cX7_save 3 none ∈ TB := ⟨wd_2_89, wp_1_1, wd_1_1, wd_2_90⟩
theorem mm_X7_set : Cond.instanceMethod yX7_set ∈ TB ∧ Cond.selects RX7 yX7_set yX7_set ∈ TB ∧ Cond.initialized RX7 ∈ TB ∧ Cond.code yX7_set cX7_set 3 (some .int) ∈ TB := ⟨wd_2_138, wd_2_139, wd_1_1, wd_2_140⟩
theorem mm_X7_setRow : Cond.instanceMethod yX7_setRow ∈ TB ∧ Cond.selects RX7 yX7_setRow yX7_setRow ∈ TB ∧ Cond.initialized RX7 ∈ TB ∧ Cond.code yX7_setRow cX7_setRow 4 (some .int) ∈ TB := ⟨wd_2_175, wd_2_176, wd_1_1, wd_2_177⟩
theorem mm_X7_whole : Cond.instanceMethod yX7_whole ∈ TB ∧ Cond.selects RX7 yX7_whole yX7_whole ∈ TB ∧ Cond.initialized RX7 ∈ TB ∧ Cond.code yX7_whole cX7_whole 2 (some .int) ∈ TB := ⟨wd_3_219, wd_3_220, wd_1_1, wd_3_221⟩
