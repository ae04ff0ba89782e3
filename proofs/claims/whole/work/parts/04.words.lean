/-! the words of the tables that the rows use, each by its place -/
theorem nf_0 {l : Launch} {Z : ZZ} {ex : Bool} {X : XX} {cc : ByteArray} {nL : Nat} {ret : Option FieldType} (C : Cx l Z ex X cc RX7 nL ret) : (Cond.fieldLinkNest RX7 141 RX1 "length" "I" "WornDots").before (xa X) (xs X) = true := va_Nw.use rfl (C.nw.1 ("WornDots", 141, "WornDots$CommandText", "length", "I", "WornDots") (List.mem_of_getElem? (i := 0) rfl))
theorem nf_1 {l : Launch} {Z : ZZ} {ex : Bool} {X : XX} {cc : ByteArray} {nL : Nat} {ret : Option FieldType} (C : Cx l Z ex X cc RX7 nL ret) : (Cond.fieldLinkNest RX7 195 RX1 "word" "LWornDots$Word;" "WornDots").before (xa X) (xs X) = true := va_Nw.use rfl (C.nw.1 ("WornDots", 195, "WornDots$CommandText", "word", "LWornDots$Word;", "WornDots") (List.mem_of_getElem? (i := 1) rfl))
theorem nf_2 {l : Launch} {Z : ZZ} {ex : Bool} {X : XX} {cc : ByteArray} {nL : Nat} {ret : Option FieldType} (C : Cx l Z ex X cc RX7 nL ret) : (Cond.fieldLinkNest RX7 199 RX1 "numbers" "[I" "WornDots").before (xa X) (xs X) = true := va_Nw.use rfl (C.nw.1 ("WornDots", 199, "WornDots$CommandText", "numbers", "[I", "WornDots") (List.mem_of_getElem? (i := 2) rfl))
theorem nf_3 {l : Launch} {Z : ZZ} {ex : Bool} {X : XX} {cc : ByteArray} {nL : Nat} {ret : Option FieldType} (C : Cx l Z ex X cc RX5 nL ret) : (Cond.fieldLinkNest RX5 68 RX3 "dots" "I" "WornDots").before (xa X) (xs X) = true := va_Nw.use rfl (C.nw.1 ("WornDots$State", 68, "WornDots$Head", "dots", "I", "WornDots") (List.mem_of_getElem? (i := 3) rfl))
theorem nf_4 {l : Launch} {Z : ZZ} {ex : Bool} {X : XX} {cc : ByteArray} {nL : Nat} {ret : Option FieldType} (C : Cx l Z ex X cc RX7 nL ret) : (Cond.fieldLinkNest RX7 238 RX3 "dots" "I" "WornDots").before (xa X) (xs X) = true := va_Nw.use rfl (C.nw.1 ("WornDots", 238, "WornDots$Head", "dots", "I", "WornDots") (List.mem_of_getElem? (i := 4) rfl))
theorem nf_5 {l : Launch} {Z : ZZ} {ex : Bool} {X : XX} {cc : ByteArray} {nL : Nat} {ret : Option FieldType} (C : Cx l Z ex X cc RX5 nL ret) : (Cond.fieldLinkNest RX5 194 RX3 "burntInAll" "I" "WornDots").before (xa X) (xs X) = true := va_Nw.use rfl (C.nw.1 ("WornDots$State", 194, "WornDots$Head", "burntInAll", "I", "WornDots") (List.mem_of_getElem? (i := 5) rfl))
theorem nf_6 {l : Launch} {Z : ZZ} {ex : Bool} {X : XX} {cc : ByteArray} {nL : Nat} {ret : Option FieldType} (C : Cx l Z ex X cc RX5 nL ret) : (Cond.fieldLinkNest RX5 180 RX3 "heat" "[I" "WornDots").before (xa X) (xs X) = true := va_Nw.use rfl (C.nw.1 ("WornDots$State", 180, "WornDots$Head", "heat", "[I", "WornDots") (List.mem_of_getElem? (i := 6) rfl))
theorem nf_7 {l : Launch} {Z : ZZ} {ex : Bool} {X : XX} {cc : ByteArray} {nL : Nat} {ret : Option FieldType} (C : Cx l Z ex X cc RX5 nL ret) : (Cond.fieldLinkNest RX5 107 RX3 "wear" "[I" "WornDots").before (xa X) (xs X) = true := va_Nw.use rfl (C.nw.1 ("WornDots$State", 107, "WornDots$Head", "wear", "[I", "WornDots") (List.mem_of_getElem? (i := 7) rfl))
theorem nf_8 {l : Launch} {Z : ZZ} {ex : Bool} {X : XX} {cc : ByteArray} {nL : Nat} {ret : Option FieldType} (C : Cx l Z ex X cc RX5 nL ret) : (Cond.fieldLinkNest RX5 187 RX3 "burnt" "[I" "WornDots").before (xa X) (xs X) = true := va_Nw.use rfl (C.nw.1 ("WornDots$State", 187, "WornDots$Head", "burnt", "[I", "WornDots") (List.mem_of_getElem? (i := 8) rfl))
theorem nf_9 {l : Launch} {Z : ZZ} {ex : Bool} {X : XX} {cc : ByteArray} {nL : Nat} {ret : Option FieldType} (C : Cx l Z ex X cc RX5 nL ret) : (Cond.fieldLinkNest RX5 37 "WornDots" "FIRST_SETTING" "[I" "WornDots").before (xa X) (xs X) = true := va_Nw.use rfl (C.nw.1 ("WornDots$State", 37, "WornDots", "FIRST_SETTING", "[I", "WornDots") (List.mem_of_getElem? (i := 9) rfl))
theorem nf_10 {l : Launch} {Z : ZZ} {ex : Bool} {X : XX} {cc : ByteArray} {nL : Nat} {ret : Option FieldType} (C : Cx l Z ex X cc RX5 nL ret) : (Cond.fieldLinkNest RX5 88 RX4 "width" "I" "WornDots").before (xa X) (xs X) = true := va_Nw.use rfl (C.nw.1 ("WornDots$State", 88, "WornDots$Label", "width", "I", "WornDots") (List.mem_of_getElem? (i := 10) rfl))
theorem nf_11 {l : Launch} {Z : ZZ} {ex : Bool} {X : XX} {cc : ByteArray} {nL : Nat} {ret : Option FieldType} (C : Cx l Z ex X cc RX3 nL ret) : (Cond.fieldLinkNest RX3 38 RX4 "width" "I" "WornDots").before (xa X) (xs X) = true := va_Nw.use rfl (C.nw.1 ("WornDots$Head", 38, "WornDots$Label", "width", "I", "WornDots") (List.mem_of_getElem? (i := 11) rfl))
theorem nf_12 {l : Launch} {Z : ZZ} {ex : Bool} {X : XX} {cc : ByteArray} {nL : Nat} {ret : Option FieldType} (C : Cx l Z ex X cc RX5 nL ret) : (Cond.fieldLinkNest RX5 91 RX4 "blackness" "I" "WornDots").before (xa X) (xs X) = true := va_Nw.use rfl (C.nw.1 ("WornDots$State", 91, "WornDots$Label", "blackness", "I", "WornDots") (List.mem_of_getElem? (i := 12) rfl))
theorem nf_13 {l : Launch} {Z : ZZ} {ex : Bool} {X : XX} {cc : ByteArray} {nL : Nat} {ret : Option FieldType} (C : Cx l Z ex X cc RX3 nL ret) : (Cond.fieldLinkNest RX3 50 RX4 "blackness" "I" "WornDots").before (xa X) (xs X) = true := va_Nw.use rfl (C.nw.1 ("WornDots$Head", 50, "WornDots$Label", "blackness", "I", "WornDots") (List.mem_of_getElem? (i := 13) rfl))
theorem nf_14 {l : Launch} {Z : ZZ} {ex : Bool} {X : XX} {cc : ByteArray} {nL : Nat} {ret : Option FieldType} (C : Cx l Z ex X cc RX5 nL ret) : (Cond.fieldLinkNest RX5 162 RX4 "printed" "I" "WornDots").before (xa X) (xs X) = true := va_Nw.use rfl (C.nw.1 ("WornDots$State", 162, "WornDots$Label", "printed", "I", "WornDots") (List.mem_of_getElem? (i := 14) rfl))
theorem nf_15 {l : Launch} {Z : ZZ} {ex : Bool} {X : XX} {cc : ByteArray} {nL : Nat} {ret : Option FieldType} (C : Cx l Z ex X cc RX5 nL ret) : (Cond.fieldLinkNest RX5 169 RX4 "failed" "I" "WornDots").before (xa X) (xs X) = true := va_Nw.use rfl (C.nw.1 ("WornDots$State", 169, "WornDots$Label", "failed", "I", "WornDots") (List.mem_of_getElem? (i := 15) rfl))
theorem nf_16 {l : Launch} {Z : ZZ} {ex : Bool} {X : XX} {cc : ByteArray} {nL : Nat} {ret : Option FieldType} (C : Cx l Z ex X cc RX3 nL ret) : (Cond.fieldLinkNest RX3 43 RX4 "rows" "[I" "WornDots").before (xa X) (xs X) = true := va_Nw.use rfl (C.nw.1 ("WornDots$Head", 43, "WornDots$Label", "rows", "[I", "WornDots") (List.mem_of_getElem? (i := 16) rfl))
theorem nf_17 {l : Launch} {Z : ZZ} {ex : Bool} {X : XX} {cc : ByteArray} {nL : Nat} {ret : Option FieldType} (C : Cx l Z ex X cc RX5 nL ret) : (Cond.fieldLinkNest RX5 101 RX4 "rows" "[I" "WornDots").before (xa X) (xs X) = true := va_Nw.use rfl (C.nw.1 ("WornDots$State", 101, "WornDots$Label", "rows", "[I", "WornDots") (List.mem_of_getElem? (i := 17) rfl))
theorem nf_18 {l : Launch} {Z : ZZ} {ex : Bool} {X : XX} {cc : ByteArray} {nL : Nat} {ret : Option FieldType} (C : Cx l Z ex X cc RX7 nL ret) : (Cond.fieldLinkNest RX7 127 RX4 "rows" "[I" "WornDots").before (xa X) (xs X) = true := va_Nw.use rfl (C.nw.1 ("WornDots", 127, "WornDots$Label", "rows", "[I", "WornDots") (List.mem_of_getElem? (i := 18) rfl))
theorem nf_19 {l : Launch} {Z : ZZ} {ex : Bool} {X : XX} {cc : ByteArray} {nL : Nat} {ret : Option FieldType} (C : Cx l Z ex X cc RX5 nL ret) : (Cond.fieldLinkNest RX5 126 RX2 "first" "I" "WornDots").before (xa X) (xs X) = true := va_Nw.use rfl (C.nw.1 ("WornDots$State", 126, "WornDots$Customer", "first", "I", "WornDots") (List.mem_of_getElem? (i := 19) rfl))
theorem nf_20 {l : Launch} {Z : ZZ} {ex : Bool} {X : XX} {cc : ByteArray} {nL : Nat} {ret : Option FieldType} (C : Cx l Z ex X cc RX5 nL ret) : (Cond.fieldLinkNest RX5 129 RX2 "last" "I" "WornDots").before (xa X) (xs X) = true := va_Nw.use rfl (C.nw.1 ("WornDots$State", 129, "WornDots$Customer", "last", "I", "WornDots") (List.mem_of_getElem? (i := 20) rfl))
theorem nf_21 {l : Launch} {Z : ZZ} {ex : Bool} {X : XX} {cc : ByteArray} {nL : Nat} {ret : Option FieldType} (C : Cx l Z ex X cc RX5 nL ret) : (Cond.fieldLinkNest RX5 156 RX2 "paid" "I" "WornDots").before (xa X) (xs X) = true := va_Nw.use rfl (C.nw.1 ("WornDots$State", 156, "WornDots$Customer", "paid", "I", "WornDots") (List.mem_of_getElem? (i := 21) rfl))
theorem nf_22 {l : Launch} {Z : ZZ} {ex : Bool} {X : XX} {cc : ByteArray} {nL : Nat} {ret : Option FieldType} (C : Cx l Z ex X cc RX5 nL ret) : (Cond.fieldLinkNest RX5 163 RX2 "paidBack" "I" "WornDots").before (xa X) (xs X) = true := va_Nw.use rfl (C.nw.1 ("WornDots$State", 163, "WornDots$Customer", "paidBack", "I", "WornDots") (List.mem_of_getElem? (i := 22) rfl))
theorem nf_23 {l : Launch} {Z : ZZ} {ex : Bool} {X : XX} {cc : ByteArray} {nL : Nat} {ret : Option FieldType} (C : Cx l Z ex X cc RX5 nL ret) : (Cond.fieldLinkNest RX5 159 RX2 "printed" "I" "WornDots").before (xa X) (xs X) = true := va_Nw.use rfl (C.nw.1 ("WornDots$State", 159, "WornDots$Customer", "printed", "I", "WornDots") (List.mem_of_getElem? (i := 23) rfl))
theorem nf_24 {l : Launch} {Z : ZZ} {ex : Bool} {X : XX} {cc : ByteArray} {nL : Nat} {ret : Option FieldType} (C : Cx l Z ex X cc RX5 nL ret) : (Cond.fieldLinkNest RX5 166 RX2 "failed" "I" "WornDots").before (xa X) (xs X) = true := va_Nw.use rfl (C.nw.1 ("WornDots$State", 166, "WornDots$Customer", "failed", "I", "WornDots") (List.mem_of_getElem? (i := 24) rfl))
theorem nf_25 {l : Launch} {Z : ZZ} {ex : Bool} {X : XX} {cc : ByteArray} {nL : Nat} {ret : Option FieldType} (C : Cx l Z ex X cc RX7 nL ret) : (Cond.fieldLinkNest RX7 169 RX5 "head" "LWornDots$Head;" "WornDots").before (xa X) (xs X) = true := va_Nw.use rfl (C.nw.1 ("WornDots", 169, "WornDots$State", "head", "LWornDots$Head;", "WornDots") (List.mem_of_getElem? (i := 25) rfl))
theorem nf_26 {l : Launch} {Z : ZZ} {ex : Bool} {X : XX} {cc : ByteArray} {nL : Nat} {ret : Option FieldType} (C : Cx l Z ex X cc RX7 nL ret) : (Cond.fieldLinkNest RX7 118 RX5 "labels" "[LWornDots$Label;" "WornDots").before (xa X) (xs X) = true := va_Nw.use rfl (C.nw.1 ("WornDots", 118, "WornDots$State", "labels", "[LWornDots$Label;", "WornDots") (List.mem_of_getElem? (i := 26) rfl))
theorem nf_27 {l : Launch} {Z : ZZ} {ex : Bool} {X : XX} {cc : ByteArray} {nL : Nat} {ret : Option FieldType} (C : Cx l Z ex X cc RX7 nL ret) : (Cond.fieldLinkNest RX7 241 RX5 "labelCount" "I" "WornDots").before (xa X) (xs X) = true := va_Nw.use rfl (C.nw.1 ("WornDots", 241, "WornDots$State", "labelCount", "I", "WornDots") (List.mem_of_getElem? (i := 27) rfl))
theorem nf_28 {l : Launch} {Z : ZZ} {ex : Bool} {X : XX} {cc : ByteArray} {nL : Nat} {ret : Option FieldType} (C : Cx l Z ex X cc RX7 nL ret) : (Cond.fieldLinkNest RX7 134 RX5 "customers" "[LWornDots$Customer;" "WornDots").before (xa X) (xs X) = true := va_Nw.use rfl (C.nw.1 ("WornDots", 134, "WornDots$State", "customers", "[LWornDots$Customer;", "WornDots") (List.mem_of_getElem? (i := 28) rfl))
theorem nf_29 {l : Launch} {Z : ZZ} {ex : Bool} {X : XX} {cc : ByteArray} {nL : Nat} {ret : Option FieldType} (C : Cx l Z ex X cc RX7 nL ret) : (Cond.fieldLinkNest RX7 244 RX5 "customerCount" "I" "WornDots").before (xa X) (xs X) = true := va_Nw.use rfl (C.nw.1 ("WornDots", 244, "WornDots$State", "customerCount", "I", "WornDots") (List.mem_of_getElem? (i := 29) rfl))
theorem nf_30 {l : Launch} {Z : ZZ} {ex : Bool} {X : XX} {cc : ByteArray} {nL : Nat} {ret : Option FieldType} (C : Cx l Z ex X cc RX1 nL ret) : (Cond.fieldLinkNest RX1 64 "WornDots" "WORDS" "[LWornDots$Word;" "WornDots").before (xa X) (xs X) = true := va_Nw.use rfl (C.nw.1 ("WornDots$CommandText", 64, "WornDots", "WORDS", "[LWornDots$Word;", "WornDots") (List.mem_of_getElem? (i := 30) rfl))
theorem nf_31 {l : Launch} {Z : ZZ} {ex : Bool} {X : XX} {cc : ByteArray} {nL : Nat} {ret : Option FieldType} (C : Cx l Z ex X cc RX5 nL ret) : (Cond.fieldLinkNest RX5 82 "WornDots" "LOWEST_SETTING" "[I" "WornDots").before (xa X) (xs X) = true := va_Nw.use rfl (C.nw.1 ("WornDots$State", 82, "WornDots", "LOWEST_SETTING", "[I", "WornDots") (List.mem_of_getElem? (i := 31) rfl))
theorem nf_32 {l : Launch} {Z : ZZ} {ex : Bool} {X : XX} {cc : ByteArray} {nL : Nat} {ret : Option FieldType} (C : Cx l Z ex X cc RX5 nL ret) : (Cond.fieldLinkNest RX5 85 "WornDots" "HIGHEST_SETTING" "[I" "WornDots").before (xa X) (xs X) = true := va_Nw.use rfl (C.nw.1 ("WornDots$State", 85, "WornDots", "HIGHEST_SETTING", "[I", "WornDots") (List.mem_of_getElem? (i := 32) rfl))
theorem nf_33 {l : Launch} {Z : ZZ} {ex : Bool} {X : XX} {cc : ByteArray} {nL : Nat} {ret : Option FieldType} (C : Cx l Z ex X cc RX1 nL ret) : (Cond.fieldLinkNest RX1 68 "WornDots$Word" "letters" "Ljava/lang/String;" "WornDots").before (xa X) (xs X) = true := va_Nw.use rfl (C.nw.1 ("WornDots$CommandText", 68, "WornDots$Word", "letters", "Ljava/lang/String;", "WornDots") (List.mem_of_getElem? (i := 33) rfl))
theorem nf_34 {l : Launch} {Z : ZZ} {ex : Bool} {X : XX} {cc : ByteArray} {nL : Nat} {ret : Option FieldType} (C : Cx l Z ex X cc RX1 nL ret) : (Cond.fieldLinkNest RX1 55 "WornDots$Word" "numbers" "I" "WornDots").before (xa X) (xs X) = true := va_Nw.use rfl (C.nw.1 ("WornDots$CommandText", 55, "WornDots$Word", "numbers", "I", "WornDots") (List.mem_of_getElem? (i := 34) rfl))
set_option maxRecDepth 100000 in
theorem wd_1_1 : Cond.initialized RX7 ∈ TB := tb1 (List.mem_of_getElem? (i := 1) rfl) rfl
set_option maxRecDepth 100000 in
theorem wd_1_2 : Cond.initialized RX1 ∈ TB := tb1 (List.mem_of_getElem? (i := 2) rfl) rfl
set_option maxRecDepth 100000 in
theorem wd_1_3 : Cond.initialized RJx29ce0 ∈ TB := tb1 (List.mem_of_getElem? (i := 3) rfl) rfl
set_option maxRecDepth 100000 in
theorem wd_1_5 : Cond.initialized RX3 ∈ TB := tb1 (List.mem_of_getElem? (i := 5) rfl) rfl
set_option maxRecDepth 100000 in
theorem wd_1_6 : Cond.initialized RX5 ∈ TB := tb1 (List.mem_of_getElem? (i := 6) rfl) rfl
set_option maxRecDepth 100000 in
theorem wd_1_7 : Cond.initialized "java/lang/System" ∈ TB := tb1 (List.mem_of_getElem? (i := 7) rfl) rfl
set_option maxRecDepth 100000 in
theorem wd_1_8 : Cond.initialized RX4 ∈ TB := tb1 (List.mem_of_getElem? (i := 8) rfl) rfl
set_option maxRecDepth 100000 in
theorem wd_1_9 : Cond.initialized RX2 ∈ TB := tb1 (List.mem_of_getElem? (i := 9) rfl) rfl
set_option maxRecDepth 100000 in
theorem wd_1_10 : Cond.initialized RX8 ∈ TB := tb1 (List.mem_of_getElem? (i := 10) rfl) rfl
set_option maxRecDepth 100000 in
theorem wd_1_14 : Cond.initialized "java/lang/IndexOutOfBoundsException" ∈ TB := tb1 (List.mem_of_getElem? (i := 14) rfl) rfl
set_option maxRecDepth 100000 in
theorem wd_1_15 : Cond.initialized "java/lang/IllegalArgumentException" ∈ TB := tb1 (List.mem_of_getElem? (i := 15) rfl) rfl
set_option maxRecDepth 100000 in
theorem wd_1_16 : Cond.initialized "java/lang/IllegalStateException" ∈ TB := tb1 (List.mem_of_getElem? (i := 16) rfl) rfl
set_option maxRecDepth 100000 in
theorem wd_1_17 : Cond.initialized RJ6 ∈ TB := tb1 (List.mem_of_getElem? (i := 17) rfl) rfl
set_option maxRecDepth 100000 in
theorem wd_1_18 : Cond.initialized "java/lang/Math" ∈ TB := tb1 (List.mem_of_getElem? (i := 18) rfl) rfl
set_option maxRecDepth 100000 in
theorem wd_1_19 : Cond.initialized RJ0 ∈ TB := tb1 (List.mem_of_getElem? (i := 19) rfl) rfl
set_option maxRecDepth 100000 in
theorem wd_1_20 : Cond.initialized RJ1 ∈ TB := tb1 (List.mem_of_getElem? (i := 20) rfl) rfl
set_option maxRecDepth 100000 in
theorem wd_1_21 : Cond.initialized RJ3 ∈ TB := tb1 (List.mem_of_getElem? (i := 21) rfl) rfl
set_option maxRecDepth 100000 in
theorem wd_1_22 : Cond.initialized RJ2 ∈ TB := tb1 (List.mem_of_getElem? (i := 22) rfl) rfl
set_option maxRecDepth 100000 in
theorem wd_1_29 : Cond.methodLink RX7 1 Lib.objectInit ∈ TB := tb1 (List.mem_of_getElem? (i := 29) rfl) rfl
set_option maxRecDepth 100000 in
theorem wd_1_30 : Cond.instanceMethod Lib.objectInit ∈ TB := tb1 (List.mem_of_getElem? (i := 30) rfl) rfl
set_option maxRecDepth 100000 in
theorem wd_1_31 : Cond.code Lib.objectInit ⟨#[0xb1]⟩ 1 none ∈ TB := tb1 (List.mem_of_getElem? (i := 31) rfl) rfl
set_option maxRecDepth 100000 in
theorem wd_1_32 : Cond.classLink RX7 7 RX1 ∈ TB := tb1 (List.mem_of_getElem? (i := 32) rfl) rfl
set_option maxRecDepth 100000 in
theorem wd_1_33 : Cond.instantiable RX1 6 ∈ TB := tb1 (List.mem_of_getElem? (i := 33) rfl) rfl
set_option maxRecDepth 100000 in
theorem wd_1_35 : Cond.instanceMethod yX1_init ∈ TB := tb1 (List.mem_of_getElem? (i := 35) rfl) rfl
set_option maxRecDepth 100000 in
theorem wd_1_36 : Cond.code yX1_init cX1_init 1 none ∈ TB := tb1 (List.mem_of_getElem? (i := 36) rfl) rfl
set_option maxRecDepth 100000 in
theorem wd_1_37 : Cond.methodLink RX1 3 Lib.objectInit ∈ TB := tb1 (List.mem_of_getElem? (i := 37) rfl) rfl
set_option maxRecDepth 100000 in
theorem wd_1_38 : Cond.fieldLink RX1 19 "WornDots$Word" "HEAD" "LWornDots$Word;" ∈ TB := tb1 (List.mem_of_getElem? (i := 38) rfl) rfl
set_option maxRecDepth 100000 in
theorem wd_1_40 : Cond.fieldLink RX1 9 RX1 "bytes" "[C" ∈ TB := tb1 (List.mem_of_getElem? (i := 40) rfl) rfl
set_option maxRecDepth 100000 in
theorem wd_1_41 : Cond.fieldLink RX1 32 RX1 "length" "I" ∈ TB := tb1 (List.mem_of_getElem? (i := 41) rfl) rfl
set_option maxRecDepth 100000 in
theorem wd_1_43 : Cond.fieldLink RX1 35 RX1 "place" "I" ∈ TB := tb1 (List.mem_of_getElem? (i := 43) rfl) rfl
set_option maxRecDepth 100000 in
theorem wd_1_44 : Cond.fieldLink RX1 15 RX1 "fault" "I" ∈ TB := tb1 (List.mem_of_getElem? (i := 44) rfl) rfl
set_option maxRecDepth 100000 in
theorem wd_1_45 : Cond.fieldLink RX1 25 RX1 "word" "LWornDots$Word;" ∈ TB := tb1 (List.mem_of_getElem? (i := 45) rfl) rfl
set_option maxRecDepth 100000 in
theorem wd_1_47 : Cond.fieldLink RX1 28 RX1 "numbers" "[I" ∈ TB := tb1 (List.mem_of_getElem? (i := 47) rfl) rfl
set_option maxRecDepth 100000 in
theorem wd_1_62 : Cond.arrayClass .char ∈ TB := tb1 (List.mem_of_getElem? (i := 62) rfl) rfl
set_option maxRecDepth 100000 in
theorem wd_1_63 : Cond.arrayClass .int ∈ TB := tb1 (List.mem_of_getElem? (i := 63) rfl) rfl
set_option maxRecDepth 100000 in
theorem wd_1_64 : Cond.classLink RX7 16 RX5 ∈ TB := tb1 (List.mem_of_getElem? (i := 64) rfl) rfl
set_option maxRecDepth 100000 in
theorem wd_1_66 : Cond.classLink RX7 22 RX3 ∈ TB := tb1 (List.mem_of_getElem? (i := 66) rfl) rfl
set_option maxRecDepth 100000 in
theorem wd_1_67 : Cond.instantiable RX3 5 ∈ TB := tb1 (List.mem_of_getElem? (i := 67) rfl) rfl
set_option maxRecDepth 100000 in
theorem wd_1_69 : Cond.instanceMethod yX3_init ∈ TB := tb1 (List.mem_of_getElem? (i := 69) rfl) rfl
set_option maxRecDepth 100000 in
theorem wd_1_70 : Cond.code yX3_init cX3_init 1 none ∈ TB := tb1 (List.mem_of_getElem? (i := 70) rfl) rfl
set_option maxRecDepth 100000 in
theorem wd_1_71 : Cond.methodLink RX3 3 Lib.objectInit ∈ TB := tb1 (List.mem_of_getElem? (i := 71) rfl) rfl
set_option maxRecDepth 100000 in
theorem wd_1_72 : Cond.fieldLink RX3 9 RX3 "dots" "I" ∈ TB := tb1 (List.mem_of_getElem? (i := 72) rfl) rfl
set_option maxRecDepth 100000 in
theorem wd_1_75 : Cond.fieldLink RX3 25 RX3 "burntInAll" "I" ∈ TB := tb1 (List.mem_of_getElem? (i := 75) rfl) rfl
set_option maxRecDepth 100000 in
theorem wd_1_77 : Cond.fieldLink RX3 15 RX3 "heat" "[I" ∈ TB := tb1 (List.mem_of_getElem? (i := 77) rfl) rfl
set_option maxRecDepth 100000 in
theorem wd_1_79 : Cond.fieldLink RX3 19 RX3 "wear" "[I" ∈ TB := tb1 (List.mem_of_getElem? (i := 79) rfl) rfl
set_option maxRecDepth 100000 in
theorem wd_1_81 : Cond.fieldLink RX3 22 RX3 "burnt" "[I" ∈ TB := tb1 (List.mem_of_getElem? (i := 81) rfl) rfl
set_option maxRecDepth 100000 in
theorem wd_1_94 : Cond.instantiable RX5 8 ∈ TB := tb1 (List.mem_of_getElem? (i := 94) rfl) rfl
set_option maxRecDepth 100000 in
theorem wd_1_95 : Cond.methodLink RX7 25 yX5_init ∈ TB := tb1 (List.mem_of_getElem? (i := 95) rfl) rfl
set_option maxRecDepth 100000 in
theorem wd_1_96 : Cond.instanceMethod yX5_init ∈ TB := tb1 (List.mem_of_getElem? (i := 96) rfl) rfl
set_option maxRecDepth 100000 in
theorem wd_1_97 : Cond.code yX5_init cX5_init 3 none ∈ TB := tb1 (List.mem_of_getElem? (i := 97) rfl) rfl
set_option maxRecDepth 100000 in
theorem wd_1_98 : Cond.methodLink RX5 3 Lib.objectInit ∈ TB := tb1 (List.mem_of_getElem? (i := 98) rfl) rfl
set_option maxRecDepth 100000 in
theorem wd_1_99 : Cond.classLink RX5 9 RX3 ∈ TB := tb1 (List.mem_of_getElem? (i := 99) rfl) rfl
set_option maxRecDepth 100000 in
theorem wd_1_101 : Cond.classLink RX5 22 RX4 ∈ TB := tb1 (List.mem_of_getElem? (i := 101) rfl) rfl
set_option maxRecDepth 100000 in
theorem wd_1_103 : Cond.classLink RX5 28 RX2 ∈ TB := tb1 (List.mem_of_getElem? (i := 103) rfl) rfl
set_option maxRecDepth 100000 in
theorem wd_1_107 : Cond.methodLink RX5 40 arraycopyName ∈ TB := tb1 (List.mem_of_getElem? (i := 107) rfl) rfl
set_option maxRecDepth 100000 in
theorem wd_1_108 : Cond.static arraycopyName ∈ TB := tb1 (List.mem_of_getElem? (i := 108) rfl) rfl
set_option maxRecDepth 100000 in
theorem wd_1_109 : Cond.native arraycopyName ∈ TB := tb1 (List.mem_of_getElem? (i := 109) rfl) rfl
set_option maxRecDepth 100000 in
theorem wd_1_110 : Cond.instantiable RX4 5 ∈ TB := tb1 (List.mem_of_getElem? (i := 110) rfl) rfl
set_option maxRecDepth 100000 in
theorem wd_1_112 : Cond.instanceMethod yX4_init ∈ TB := tb1 (List.mem_of_getElem? (i := 112) rfl) rfl
set_option maxRecDepth 100000 in
theorem wd_1_113 : Cond.code yX4_init cX4_init 1 none ∈ TB := tb1 (List.mem_of_getElem? (i := 113) rfl) rfl
set_option maxRecDepth 100000 in
theorem wd_1_114 : Cond.methodLink RX4 3 Lib.objectInit ∈ TB := tb1 (List.mem_of_getElem? (i := 114) rfl) rfl
set_option maxRecDepth 100000 in
theorem wd_1_115 : Cond.fieldLink RX4 9 RX4 "width" "I" ∈ TB := tb1 (List.mem_of_getElem? (i := 115) rfl) rfl
set_option maxRecDepth 100000 in
theorem wd_1_118 : Cond.fieldLink RX4 15 RX4 "blackness" "I" ∈ TB := tb1 (List.mem_of_getElem? (i := 118) rfl) rfl
set_option maxRecDepth 100000 in
theorem wd_1_121 : Cond.fieldLink RX4 22 RX4 "printed" "I" ∈ TB := tb1 (List.mem_of_getElem? (i := 121) rfl) rfl
set_option maxRecDepth 100000 in
theorem wd_1_123 : Cond.fieldLink RX4 25 RX4 "failed" "I" ∈ TB := tb1 (List.mem_of_getElem? (i := 123) rfl) rfl
set_option maxRecDepth 100000 in
theorem wd_1_125 : Cond.fieldLink RX4 18 RX4 "rows" "[I" ∈ TB := tb1 (List.mem_of_getElem? (i := 125) rfl) rfl
set_option maxRecDepth 100000 in
theorem wd_1_140 : Cond.instantiable RX2 6 ∈ TB := tb1 (List.mem_of_getElem? (i := 140) rfl) rfl
set_option maxRecDepth 100000 in
theorem wd_1_142 : Cond.instanceMethod yX2_init ∈ TB := tb1 (List.mem_of_getElem? (i := 142) rfl) rfl
set_option maxRecDepth 100000 in
theorem wd_1_143 : Cond.code yX2_init cX2_init 1 none ∈ TB := tb1 (List.mem_of_getElem? (i := 143) rfl) rfl
set_option maxRecDepth 100000 in
theorem wd_1_144 : Cond.methodLink RX2 3 Lib.objectInit ∈ TB := tb1 (List.mem_of_getElem? (i := 144) rfl) rfl
set_option maxRecDepth 100000 in
theorem wd_1_145 : Cond.fieldLink RX2 9 RX2 "first" "I" ∈ TB := tb1 (List.mem_of_getElem? (i := 145) rfl) rfl
set_option maxRecDepth 100000 in
theorem wd_1_147 : Cond.fieldLink RX2 15 RX2 "last" "I" ∈ TB := tb1 (List.mem_of_getElem? (i := 147) rfl) rfl
set_option maxRecDepth 100000 in
theorem wd_1_149 : Cond.fieldLink RX2 18 RX2 "paid" "I" ∈ TB := tb1 (List.mem_of_getElem? (i := 149) rfl) rfl
set_option maxRecDepth 100000 in
theorem wd_1_151 : Cond.fieldLink RX2 21 RX2 "paidBack" "I" ∈ TB := tb1 (List.mem_of_getElem? (i := 151) rfl) rfl
set_option maxRecDepth 100000 in
theorem wd_1_153 : Cond.fieldLink RX2 24 RX2 "printed" "I" ∈ TB := tb1 (List.mem_of_getElem? (i := 153) rfl) rfl
set_option maxRecDepth 100000 in
theorem wd_1_155 : Cond.fieldLink RX2 27 RX2 "failed" "I" ∈ TB := tb1 (List.mem_of_getElem? (i := 155) rfl) rfl
set_option maxRecDepth 100000 in
theorem wd_1_170 : Cond.fieldLink RX5 12 RX5 "head" "LWornDots$Head;" ∈ TB := tb1 (List.mem_of_getElem? (i := 170) rfl) rfl
set_option maxRecDepth 100000 in
theorem wd_1_172 : Cond.fieldLink RX5 34 RX5 "trial" "LWornDots$Head;" ∈ TB := tb1 (List.mem_of_getElem? (i := 172) rfl) rfl
set_option maxRecDepth 100000 in
theorem wd_1_173 : Cond.fieldLink RX5 18 RX5 "settings" "[I" ∈ TB := tb1 (List.mem_of_getElem? (i := 173) rfl) rfl
set_option maxRecDepth 100000 in
theorem wd_1_174 : Cond.fieldLink RX5 24 RX5 "labels" "[LWornDots$Label;" ∈ TB := tb1 (List.mem_of_getElem? (i := 174) rfl) rfl
set_option maxRecDepth 100000 in
theorem wd_1_176 : Cond.fieldLink RX5 55 RX5 "labelCount" "I" ∈ TB := tb1 (List.mem_of_getElem? (i := 176) rfl) rfl
set_option maxRecDepth 100000 in
theorem wd_1_178 : Cond.fieldLink RX5 30 RX5 "customers" "[LWornDots$Customer;" ∈ TB := tb1 (List.mem_of_getElem? (i := 178) rfl) rfl
set_option maxRecDepth 100000 in
theorem wd_1_180 : Cond.fieldLink RX5 62 RX5 "customerCount" "I" ∈ TB := tb1 (List.mem_of_getElem? (i := 180) rfl) rfl
set_option maxRecDepth 100000 in
theorem wd_1_182 : Cond.fieldLink RX5 65 RX5 "lines" "I" ∈ TB := tb1 (List.mem_of_getElem? (i := 182) rfl) rfl
set_option maxRecDepth 100000 in
theorem wd_1_200 : Cond.fieldLink RX7 10 RX7 "text" "LWornDots$CommandText;" ∈ TB := tb1 (List.mem_of_getElem? (i := 200) rfl) rfl
set_option maxRecDepth 100000 in
theorem wd_1_201 : Cond.fieldLink RX7 18 RX7 "saved" "[LWornDots$State;" ∈ TB := tb1 (List.mem_of_getElem? (i := 201) rfl) rfl
set_option maxRecDepth 100000 in
theorem wd_1_202 : Cond.fieldLink RX7 209 RX7 "savedCount" "I" ∈ TB := tb1 (List.mem_of_getElem? (i := 202) rfl) rfl
set_option maxRecDepth 100000 in
theorem wd_1_203 : Cond.fieldLink RX7 28 RX7 "now" "LWornDots$State;" ∈ TB := tb1 (List.mem_of_getElem? (i := 203) rfl) rfl
set_option maxRecDepth 100000 in
theorem wd_1_214 : Cond.instanceMethod yX7_mostWorn ∈ TB := tb1 (List.mem_of_getElem? (i := 214) rfl) rfl
set_option maxRecDepth 100000 in
theorem wd_1_215 : Cond.selects RX7 yX7_mostWorn yX7_mostWorn ∈ TB := tb1 (List.mem_of_getElem? (i := 215) rfl) rfl
set_option maxRecDepth 100000 in
theorem wd_1_216 : Cond.code yX7_mostWorn cX7_mostWorn 1 (some .int) ∈ TB := tb1 (List.mem_of_getElem? (i := 216) rfl) rfl
set_option maxRecDepth 100000 in
theorem wd_1_217 : Cond.methodLink RX7 173 yX3_mostWornDot ∈ TB := tb1 (List.mem_of_getElem? (i := 217) rfl) rfl
set_option maxRecDepth 100000 in
theorem wd_1_218 : Cond.instanceMethod yX3_mostWornDot ∈ TB := tb1 (List.mem_of_getElem? (i := 218) rfl) rfl
set_option maxRecDepth 100000 in
theorem wd_1_219 : Cond.selects RX3 yX3_mostWornDot yX3_mostWornDot ∈ TB := tb1 (List.mem_of_getElem? (i := 219) rfl) rfl
set_option maxRecDepth 100000 in
theorem wd_1_220 : Cond.code yX3_mostWornDot cX3_mostWornDot 3 (some .int) ∈ TB := tb1 (List.mem_of_getElem? (i := 220) rfl) rfl
set_option maxRecDepth 100000 in
theorem wd_1_225 : Cond.methodLink RX7 182 yX1_empty ∈ TB := tb1 (List.mem_of_getElem? (i := 225) rfl) rfl
set_option maxRecDepth 100000 in
theorem wd_1_226 : Cond.instanceMethod yX1_empty ∈ TB := tb1 (List.mem_of_getElem? (i := 226) rfl) rfl
set_option maxRecDepth 100000 in
theorem wd_1_227 : Cond.selects RX1 yX1_empty yX1_empty ∈ TB := tb1 (List.mem_of_getElem? (i := 227) rfl) rfl
set_option maxRecDepth 100000 in
theorem wd_1_228 : Cond.code yX1_empty cX1_empty 2 (some .int) ∈ TB := tb1 (List.mem_of_getElem? (i := 228) rfl) rfl
set_option maxRecDepth 100000 in
theorem wd_1_233 : Cond.methodLink RX7 185 yX1_findFault ∈ TB := tb1 (List.mem_of_getElem? (i := 233) rfl) rfl
set_option maxRecDepth 100000 in
theorem wd_1_234 : Cond.instanceMethod yX1_findFault ∈ TB := tb1 (List.mem_of_getElem? (i := 234) rfl) rfl
set_option maxRecDepth 100000 in
theorem wd_1_235 : Cond.selects RX1 yX1_findFault yX1_findFault ∈ TB := tb1 (List.mem_of_getElem? (i := 235) rfl) rfl
set_option maxRecDepth 100000 in
theorem wd_1_236 : Cond.code yX1_findFault cX1_findFault 3 (some .int) ∈ TB := tb1 (List.mem_of_getElem? (i := 236) rfl) rfl
set_option maxRecDepth 100000 in
theorem wd_1_237 : Cond.methodLink RX1 38 yX1_rewind ∈ TB := tb1 (List.mem_of_getElem? (i := 237) rfl) rfl
set_option maxRecDepth 100000 in
theorem wd_1_238 : Cond.instanceMethod yX1_rewind ∈ TB := tb1 (List.mem_of_getElem? (i := 238) rfl) rfl
set_option maxRecDepth 100000 in
theorem wd_1_239 : Cond.selects RX1 yX1_rewind yX1_rewind ∈ TB := tb1 (List.mem_of_getElem? (i := 239) rfl) rfl
set_option maxRecDepth 100000 in
theorem wd_2_0 : Cond.code yX1_rewind cX1_rewind 1 none ∈ TB := tb2 (List.mem_of_getElem? (i := 0) rfl) rfl
set_option maxRecDepth 100000 in
theorem wd_2_1 : Cond.methodLink RX1 41 yX1_readCommand ∈ TB := tb2 (List.mem_of_getElem? (i := 1) rfl) rfl
set_option maxRecDepth 100000 in
theorem wd_2_2 : Cond.instanceMethod yX1_readCommand ∈ TB := tb2 (List.mem_of_getElem? (i := 2) rfl) rfl
set_option maxRecDepth 100000 in
theorem wd_2_3 : Cond.selects RX1 yX1_readCommand yX1_readCommand ∈ TB := tb2 (List.mem_of_getElem? (i := 3) rfl) rfl
set_option maxRecDepth 100000 in
theorem wd_2_4 : Cond.code yX1_readCommand cX1_readCommand 3 (some .boolean) ∈ TB := tb2 (List.mem_of_getElem? (i := 4) rfl) rfl
set_option maxRecDepth 100000 in
theorem wd_2_5 : Cond.methodLink RX1 45 yX1_skipSpaces ∈ TB := tb2 (List.mem_of_getElem? (i := 5) rfl) rfl
set_option maxRecDepth 100000 in
theorem wd_2_7 : Cond.instanceMethod yX1_skipSpaces ∈ TB := tb2 (List.mem_of_getElem? (i := 7) rfl) rfl
set_option maxRecDepth 100000 in
theorem wd_2_8 : Cond.code yX1_skipSpaces cX1_skipSpaces 1 none ∈ TB := tb2 (List.mem_of_getElem? (i := 8) rfl) rfl
set_option maxRecDepth 100000 in
theorem wd_2_9 : Cond.methodLink RX1 48 yX1_skipLetters ∈ TB := tb2 (List.mem_of_getElem? (i := 9) rfl) rfl
set_option maxRecDepth 100000 in
theorem wd_2_11 : Cond.instanceMethod yX1_skipLetters ∈ TB := tb2 (List.mem_of_getElem? (i := 11) rfl) rfl
set_option maxRecDepth 100000 in
theorem wd_2_12 : Cond.code yX1_skipLetters cX1_skipLetters 1 none ∈ TB := tb2 (List.mem_of_getElem? (i := 12) rfl) rfl
set_option maxRecDepth 100000 in
theorem wd_2_13 : Cond.methodLink RX1 51 yX1_wordBetween ∈ TB := tb2 (List.mem_of_getElem? (i := 13) rfl) rfl
set_option maxRecDepth 100000 in
theorem wd_2_15 : Cond.instanceMethod yX1_wordBetween ∈ TB := tb2 (List.mem_of_getElem? (i := 15) rfl) rfl
set_option maxRecDepth 100000 in
theorem wd_2_16 : Cond.code yX1_wordBetween cX1_wordBetween 7 (some (.object "WornDots$Word")) ∈ TB := tb2 (List.mem_of_getElem? (i := 16) rfl) rfl
set_option maxRecDepth 100000 in
theorem wd_2_19 : Cond.methodLink RX1 72 yX1_isBetween ∈ TB := tb2 (List.mem_of_getElem? (i := 19) rfl) rfl
set_option maxRecDepth 100000 in
theorem wd_2_21 : Cond.instanceMethod yX1_isBetween ∈ TB := tb2 (List.mem_of_getElem? (i := 21) rfl) rfl
set_option maxRecDepth 100000 in
theorem wd_2_22 : Cond.code yX1_isBetween cX1_isBetween 5 (some .boolean) ∈ TB := tb2 (List.mem_of_getElem? (i := 22) rfl) rfl
set_option maxRecDepth 100000 in
theorem wd_2_23 : Cond.methodLink RX1 76 yJ0_length_8abf5 ∈ TB := tb2 (List.mem_of_getElem? (i := 23) rfl) rfl
set_option maxRecDepth 100000 in
theorem wd_2_24 : Cond.instanceMethod yJ0_length_8abf5 ∈ TB := tb2 (List.mem_of_getElem? (i := 24) rfl) rfl
set_option maxRecDepth 100000 in
theorem wd_2_25 : Cond.selects RJ0 yJ0_length_8abf5 yJ0_length_8abf5 ∈ TB := tb2 (List.mem_of_getElem? (i := 25) rfl) rfl
set_option maxRecDepth 100000 in
theorem wd_2_26 : Cond.code yJ0_length_8abf5 cJ0_length_8abf5 1 (some .int) ∈ TB := tb2 (List.mem_of_getElem? (i := 26) rfl) rfl
set_option maxRecDepth 100000 in
theorem wd_2_27 : Cond.methodLink RJ0 335 yJ0_coder_7d493 ∈ TB := tb2 (List.mem_of_getElem? (i := 27) rfl) rfl
set_option maxRecDepth 100000 in
theorem wd_2_28 : Cond.instanceMethod yJ0_coder_7d493 ∈ TB := tb2 (List.mem_of_getElem? (i := 28) rfl) rfl
set_option maxRecDepth 100000 in
theorem wd_2_29 : Cond.selects RJ0 yJ0_coder_7d493 yJ0_coder_7d493 ∈ TB := tb2 (List.mem_of_getElem? (i := 29) rfl) rfl
set_option maxRecDepth 100000 in
theorem wd_2_30 : Cond.code yJ0_coder_7d493 cJ0_coder_7d493 1 (some .byte) ∈ TB := tb2 (List.mem_of_getElem? (i := 30) rfl) rfl
set_option maxRecDepth 100000 in
theorem wd_2_31 : Cond.fieldLink RJ0 38 "java/lang/String" "COMPACT_STRINGS" "Z" ∈ TB := tb2 (List.mem_of_getElem? (i := 31) rfl) rfl
set_option maxRecDepth 100000 in
theorem wd_2_33 : Cond.methodLink RX1 81 yJ0_charAt_5068e ∈ TB := tb2 (List.mem_of_getElem? (i := 33) rfl) rfl
set_option maxRecDepth 100000 in
theorem wd_2_34 : Cond.instanceMethod yJ0_charAt_5068e ∈ TB := tb2 (List.mem_of_getElem? (i := 34) rfl) rfl
set_option maxRecDepth 100000 in
theorem wd_2_35 : Cond.selects RJ0 yJ0_charAt_5068e yJ0_charAt_5068e ∈ TB := tb2 (List.mem_of_getElem? (i := 35) rfl) rfl
set_option maxRecDepth 100000 in
theorem wd_2_36 : Cond.code yJ0_charAt_5068e cJ0_charAt_5068e 2 (some .char) ∈ TB := tb2 (List.mem_of_getElem? (i := 36) rfl) rfl
set_option maxRecDepth 100000 in
theorem wd_2_37 : Cond.methodLink RJ0 492 yJ0_isLatin1_aae02 ∈ TB := tb2 (List.mem_of_getElem? (i := 37) rfl) rfl
set_option maxRecDepth 100000 in
theorem wd_2_38 : Cond.instanceMethod yJ0_isLatin1_aae02 ∈ TB := tb2 (List.mem_of_getElem? (i := 38) rfl) rfl
set_option maxRecDepth 100000 in
theorem wd_2_39 : Cond.selects RJ0 yJ0_isLatin1_aae02 yJ0_isLatin1_aae02 ∈ TB := tb2 (List.mem_of_getElem? (i := 39) rfl) rfl
set_option maxRecDepth 100000 in
theorem wd_2_40 : Cond.code yJ0_isLatin1_aae02 cJ0_isLatin1_aae02 1 (some .boolean) ∈ TB := tb2 (List.mem_of_getElem? (i := 40) rfl) rfl
set_option maxRecDepth 100000 in
theorem wd_2_41 : Cond.methodLink RJ0 495 yJ1_charAt_3b067 ∈ TB := tb2 (List.mem_of_getElem? (i := 41) rfl) rfl
set_option maxRecDepth 100000 in
theorem wd_2_42 : Cond.static yJ1_charAt_3b067 ∈ TB := tb2 (List.mem_of_getElem? (i := 42) rfl) rfl
set_option maxRecDepth 100000 in
theorem wd_2_43 : Cond.code yJ1_charAt_3b067 cJ1_charAt_3b067 2 (some .char) ∈ TB := tb2 (List.mem_of_getElem? (i := 43) rfl) rfl
set_option maxRecDepth 100000 in
theorem wd_2_44 : Cond.methodLink RJ1 9 yJ0_checkIndex_df160 ∈ TB := tb2 (List.mem_of_getElem? (i := 44) rfl) rfl
set_option maxRecDepth 100000 in
theorem wd_2_45 : Cond.static yJ0_checkIndex_df160 ∈ TB := tb2 (List.mem_of_getElem? (i := 45) rfl) rfl
set_option maxRecDepth 100000 in
theorem wd_2_46 : Cond.code yJ0_checkIndex_df160 cJ0_checkIndex_df160 2 none ∈ TB := tb2 (List.mem_of_getElem? (i := 46) rfl) rfl
set_option maxRecDepth 100000 in
theorem wd_2_47 : Cond.fieldLink RJ0 1053 "jdk/internal/util/Preconditions" "SIOOBE_FORMATTER" "Ljava/util/function/BiFunction;" ∈ TB := tb2 (List.mem_of_getElem? (i := 47) rfl) rfl
set_option maxRecDepth 100000 in
theorem wd_2_49 : Cond.methodLink RJ0 1059 yJ3_checkIndex_8e157 ∈ TB := tb2 (List.mem_of_getElem? (i := 49) rfl) rfl
set_option maxRecDepth 100000 in
theorem wd_2_50 : Cond.static yJ3_checkIndex_8e157 ∈ TB := tb2 (List.mem_of_getElem? (i := 50) rfl) rfl
set_option maxRecDepth 100000 in
theorem wd_2_51 : Cond.code yJ3_checkIndex_8e157 cJ3_checkIndex_8e157 3 (some .int) ∈ TB := tb2 (List.mem_of_getElem? (i := 51) rfl) rfl
set_option maxRecDepth 100000 in
theorem wd_2_55 : Cond.methodLink RJ2 67 yJ2_checkIndex_2214a ∈ TB := tb2 (List.mem_of_getElem? (i := 55) rfl) rfl
set_option maxRecDepth 100000 in
theorem wd_2_56 : Cond.static yJ2_checkIndex_2214a ∈ TB := tb2 (List.mem_of_getElem? (i := 56) rfl) rfl
set_option maxRecDepth 100000 in
theorem wd_2_57 : Cond.code yJ2_checkIndex_2214a cJ2_checkIndex_2214a 2 none ∈ TB := tb2 (List.mem_of_getElem? (i := 57) rfl) rfl
set_option maxRecDepth 100000 in
theorem wd_2_58 : Cond.methodLink RJ2 48 yJ2_length_9d52b ∈ TB := tb2 (List.mem_of_getElem? (i := 58) rfl) rfl
set_option maxRecDepth 100000 in
theorem wd_2_59 : Cond.static yJ2_length_9d52b ∈ TB := tb2 (List.mem_of_getElem? (i := 59) rfl) rfl
set_option maxRecDepth 100000 in
theorem wd_2_60 : Cond.code yJ2_length_9d52b cJ2_length_9d52b 1 (some .int) ∈ TB := tb2 (List.mem_of_getElem? (i := 60) rfl) rfl
set_option maxRecDepth 100000 in
theorem wd_2_61 : Cond.methodLink RJ2 414 yJ0_checkIndex_df160 ∈ TB := tb2 (List.mem_of_getElem? (i := 61) rfl) rfl
set_option maxRecDepth 100000 in
theorem wd_2_65 : Cond.fieldLink RJ2 44 "java/lang/StringUTF16" "$assertionsDisabled" "Z" ∈ TB := tb2 (List.mem_of_getElem? (i := 65) rfl) rfl
set_option maxRecDepth 100000 in
theorem wd_2_71 : Cond.methodLink RX1 57 yX1_readNumbers ∈ TB := tb2 (List.mem_of_getElem? (i := 71) rfl) rfl
set_option maxRecDepth 100000 in
theorem wd_2_73 : Cond.instanceMethod yX1_readNumbers ∈ TB := tb2 (List.mem_of_getElem? (i := 73) rfl) rfl
set_option maxRecDepth 100000 in
theorem wd_2_74 : Cond.code yX1_readNumbers cX1_readNumbers 3 (some .boolean) ∈ TB := tb2 (List.mem_of_getElem? (i := 74) rfl) rfl
set_option maxRecDepth 100000 in
theorem wd_2_75 : Cond.methodLink RX1 85 yX1_readNumber ∈ TB := tb2 (List.mem_of_getElem? (i := 75) rfl) rfl
set_option maxRecDepth 100000 in
theorem wd_2_77 : Cond.instanceMethod yX1_readNumber ∈ TB := tb2 (List.mem_of_getElem? (i := 77) rfl) rfl
set_option maxRecDepth 100000 in
theorem wd_2_78 : Cond.code yX1_readNumber cX1_readNumber 5 (some .boolean) ∈ TB := tb2 (List.mem_of_getElem? (i := 78) rfl) rfl
set_option maxRecDepth 100000 in
theorem wd_2_79 : Cond.methodLink RX1 61 yX1_readSemicolon ∈ TB := tb2 (List.mem_of_getElem? (i := 79) rfl) rfl
set_option maxRecDepth 100000 in
theorem wd_2_81 : Cond.instanceMethod yX1_readSemicolon ∈ TB := tb2 (List.mem_of_getElem? (i := 81) rfl) rfl
set_option maxRecDepth 100000 in
theorem wd_2_82 : Cond.code yX1_readSemicolon cX1_readSemicolon 1 (some .boolean) ∈ TB := tb2 (List.mem_of_getElem? (i := 82) rfl) rfl
set_option maxRecDepth 100000 in
theorem wd_2_83 : Cond.methodLink RX7 40 yX7_save ∈ TB := tb2 (List.mem_of_getElem? (i := 83) rfl) rfl
set_option maxRecDepth 100000 in
theorem wd_2_85 : Cond.instanceMethod yX7_save ∈ TB := tb2 (List.mem_of_getElem? (i := 85) rfl) rfl
set_option maxRecDepth 100000 in
theorem wd_2_86 : Cond.code yX7_save cX7_save 3 none ∈ TB := tb2 (List.mem_of_getElem? (i := 86) rfl) rfl
set_option maxRecDepth 100000 in
theorem wd_2_87 : Cond.methodLink RX7 212 yX5_takeOver ∈ TB := tb2 (List.mem_of_getElem? (i := 87) rfl) rfl
set_option maxRecDepth 100000 in
theorem wd_2_88 : Cond.instanceMethod yX5_takeOver ∈ TB := tb2 (List.mem_of_getElem? (i := 88) rfl) rfl
set_option maxRecDepth 100000 in
theorem wd_2_89 : Cond.selects RX5 yX5_takeOver yX5_takeOver ∈ TB := tb2 (List.mem_of_getElem? (i := 89) rfl) rfl
set_option maxRecDepth 100000 in
theorem wd_2_90 : Cond.code yX5_takeOver cX5_takeOver 3 none ∈ TB := tb2 (List.mem_of_getElem? (i := 90) rfl) rfl
set_option maxRecDepth 100000 in
theorem wd_2_91 : Cond.methodLink RX5 48 yX3_takeOver ∈ TB := tb2 (List.mem_of_getElem? (i := 91) rfl) rfl
set_option maxRecDepth 100000 in
theorem wd_2_92 : Cond.instanceMethod yX3_takeOver ∈ TB := tb2 (List.mem_of_getElem? (i := 92) rfl) rfl
set_option maxRecDepth 100000 in
theorem wd_2_93 : Cond.selects RX3 yX3_takeOver yX3_takeOver ∈ TB := tb2 (List.mem_of_getElem? (i := 93) rfl) rfl
set_option maxRecDepth 100000 in
theorem wd_2_94 : Cond.code yX3_takeOver cX3_takeOver 2 none ∈ TB := tb2 (List.mem_of_getElem? (i := 94) rfl) rfl
set_option maxRecDepth 100000 in
theorem wd_2_95 : Cond.methodLink RX3 28 arraycopyName ∈ TB := tb2 (List.mem_of_getElem? (i := 95) rfl) rfl
set_option maxRecDepth 100000 in
theorem wd_2_96 : Cond.methodLink RX5 52 yX4_takeOver ∈ TB := tb2 (List.mem_of_getElem? (i := 96) rfl) rfl
set_option maxRecDepth 100000 in
theorem wd_2_97 : Cond.instanceMethod yX4_takeOver ∈ TB := tb2 (List.mem_of_getElem? (i := 97) rfl) rfl
set_option maxRecDepth 100000 in
theorem wd_2_98 : Cond.selects RX4 yX4_takeOver yX4_takeOver ∈ TB := tb2 (List.mem_of_getElem? (i := 98) rfl) rfl
set_option maxRecDepth 100000 in
theorem wd_2_99 : Cond.code yX4_takeOver cX4_takeOver 2 none ∈ TB := tb2 (List.mem_of_getElem? (i := 99) rfl) rfl
set_option maxRecDepth 100000 in
theorem wd_2_100 : Cond.methodLink RX4 28 arraycopyName ∈ TB := tb2 (List.mem_of_getElem? (i := 100) rfl) rfl
set_option maxRecDepth 100000 in
theorem wd_2_101 : Cond.methodLink RX5 59 yX2_takeOver ∈ TB := tb2 (List.mem_of_getElem? (i := 101) rfl) rfl
set_option maxRecDepth 100000 in
theorem wd_2_102 : Cond.instanceMethod yX2_takeOver ∈ TB := tb2 (List.mem_of_getElem? (i := 102) rfl) rfl
set_option maxRecDepth 100000 in
theorem wd_2_103 : Cond.selects RX2 yX2_takeOver yX2_takeOver ∈ TB := tb2 (List.mem_of_getElem? (i := 103) rfl) rfl
set_option maxRecDepth 100000 in
theorem wd_2_104 : Cond.code yX2_takeOver cX2_takeOver 2 none ∈ TB := tb2 (List.mem_of_getElem? (i := 104) rfl) rfl
set_option maxRecDepth 100000 in
theorem wd_2_105 : Cond.methodLink RX7 188 yX1_rewind ∈ TB := tb2 (List.mem_of_getElem? (i := 105) rfl) rfl
set_option maxRecDepth 100000 in
theorem wd_2_106 : Cond.methodLink RX7 191 yX1_readCommand ∈ TB := tb2 (List.mem_of_getElem? (i := 106) rfl) rfl
set_option maxRecDepth 100000 in
theorem wd_2_107 : Cond.methodLink RX7 202 yX5_whyNotCarryOut ∈ TB := tb2 (List.mem_of_getElem? (i := 107) rfl) rfl
set_option maxRecDepth 100000 in
theorem wd_2_108 : Cond.instanceMethod yX5_whyNotCarryOut ∈ TB := tb2 (List.mem_of_getElem? (i := 108) rfl) rfl
set_option maxRecDepth 100000 in
theorem wd_2_109 : Cond.selects RX5 yX5_whyNotCarryOut yX5_whyNotCarryOut ∈ TB := tb2 (List.mem_of_getElem? (i := 109) rfl) rfl
set_option maxRecDepth 100000 in
theorem wd_2_110 : Cond.code yX5_whyNotCarryOut cX5_whyNotCarryOut 3 (some .int) ∈ TB := tb2 (List.mem_of_getElem? (i := 110) rfl) rfl
set_option maxRecDepth 100000 in
theorem wd_2_111 : Cond.fieldLink RX5 231 "WornDots$1" "$SwitchMap$WornDots$Word" "[I" ∈ TB := tb2 (List.mem_of_getElem? (i := 111) rfl) rfl
set_option maxRecDepth 100000 in
theorem wd_2_113 : Cond.methodLink RX5 236 ⟨"WornDots$Word", "ordinal", "()I"⟩ ∈ TB := tb2 (List.mem_of_getElem? (i := 113) rfl) rfl
set_option maxRecDepth 100000 in
theorem wd_2_114 : Cond.sameMethod "WornDots$Word" "java/lang/Enum" "ordinal" "()I" ∈ TB := tb2 (List.mem_of_getElem? (i := 114) rfl) rfl
set_option maxRecDepth 100000 in
theorem wd_2_116 : Cond.selects "WornDots$Word" ⟨"WornDots$Word", "ordinal", "()I"⟩ yJx29ce0_ordinal_8abf5 ∈ TB := tb2 (List.mem_of_getElem? (i := 116) rfl) rfl
set_option maxRecDepth 100000 in
theorem wd_2_117 : Cond.instanceMethod yJx29ce0_ordinal_8abf5 ∈ TB := tb2 (List.mem_of_getElem? (i := 117) rfl) rfl
set_option maxRecDepth 100000 in
theorem wd_2_118 : Cond.code yJx29ce0_ordinal_8abf5 cJx29ce0_ordinal_8abf5 1 (some .int) ∈ TB := tb2 (List.mem_of_getElem? (i := 118) rfl) rfl
set_option maxRecDepth 100000 in
theorem wd_2_119 : Cond.methodLink RX5 241 yX5_whyNotNewHead ∈ TB := tb2 (List.mem_of_getElem? (i := 119) rfl) rfl
set_option maxRecDepth 100000 in
theorem wd_2_120 : Cond.instanceMethod yX5_whyNotNewHead ∈ TB := tb2 (List.mem_of_getElem? (i := 120) rfl) rfl
set_option maxRecDepth 100000 in
theorem wd_2_121 : Cond.selects RX5 yX5_whyNotNewHead yX5_whyNotNewHead ∈ TB := tb2 (List.mem_of_getElem? (i := 121) rfl) rfl
set_option maxRecDepth 100000 in
theorem wd_2_122 : Cond.code yX5_whyNotNewHead cX5_whyNotNewHead 2 (some .int) ∈ TB := tb2 (List.mem_of_getElem? (i := 122) rfl) rfl
set_option maxRecDepth 100000 in
theorem wd_2_123 : Cond.methodLink RX5 244 yX5_whyNotNewLabel ∈ TB := tb2 (List.mem_of_getElem? (i := 123) rfl) rfl
set_option maxRecDepth 100000 in
theorem wd_2_124 : Cond.instanceMethod yX5_whyNotNewLabel ∈ TB := tb2 (List.mem_of_getElem? (i := 124) rfl) rfl
set_option maxRecDepth 100000 in
theorem wd_2_125 : Cond.selects RX5 yX5_whyNotNewLabel yX5_whyNotNewLabel ∈ TB := tb2 (List.mem_of_getElem? (i := 125) rfl) rfl
set_option maxRecDepth 100000 in
theorem wd_2_126 : Cond.code yX5_whyNotNewLabel cX5_whyNotNewLabel 3 (some .int) ∈ TB := tb2 (List.mem_of_getElem? (i := 126) rfl) rfl
set_option maxRecDepth 100000 in
theorem wd_2_127 : Cond.methodLink RX5 247 yX5_whyNotChangeRow ∈ TB := tb2 (List.mem_of_getElem? (i := 127) rfl) rfl
set_option maxRecDepth 100000 in
theorem wd_2_128 : Cond.instanceMethod yX5_whyNotChangeRow ∈ TB := tb2 (List.mem_of_getElem? (i := 128) rfl) rfl
set_option maxRecDepth 100000 in
theorem wd_2_129 : Cond.selects RX5 yX5_whyNotChangeRow yX5_whyNotChangeRow ∈ TB := tb2 (List.mem_of_getElem? (i := 129) rfl) rfl
set_option maxRecDepth 100000 in
theorem wd_2_130 : Cond.code yX5_whyNotChangeRow cX5_whyNotChangeRow 5 (some .int) ∈ TB := tb2 (List.mem_of_getElem? (i := 130) rfl) rfl
set_option maxRecDepth 100000 in
theorem wd_2_131 : Cond.methodLink RX5 94 yX5_hasLabel ∈ TB := tb2 (List.mem_of_getElem? (i := 131) rfl) rfl
set_option maxRecDepth 100000 in
theorem wd_2_132 : Cond.instanceMethod yX5_hasLabel ∈ TB := tb2 (List.mem_of_getElem? (i := 132) rfl) rfl
set_option maxRecDepth 100000 in
theorem wd_2_133 : Cond.selects RX5 yX5_hasLabel yX5_hasLabel ∈ TB := tb2 (List.mem_of_getElem? (i := 133) rfl) rfl
set_option maxRecDepth 100000 in
theorem wd_2_134 : Cond.code yX5_hasLabel cX5_hasLabel 2 (some .boolean) ∈ TB := tb2 (List.mem_of_getElem? (i := 134) rfl) rfl
set_option maxRecDepth 100000 in
theorem wd_2_135 : Cond.methodLink RX5 98 yX4_allColumns ∈ TB := tb2 (List.mem_of_getElem? (i := 135) rfl) rfl
set_option maxRecDepth 100000 in
theorem wd_2_136 : Cond.instanceMethod yX4_allColumns ∈ TB := tb2 (List.mem_of_getElem? (i := 136) rfl) rfl
set_option maxRecDepth 100000 in
theorem wd_2_137 : Cond.selects RX4 yX4_allColumns yX4_allColumns ∈ TB := tb2 (List.mem_of_getElem? (i := 137) rfl) rfl
set_option maxRecDepth 100000 in
theorem wd_2_138 : Cond.code yX4_allColumns cX4_allColumns 1 (some .int) ∈ TB := tb2 (List.mem_of_getElem? (i := 138) rfl) rfl
set_option maxRecDepth 100000 in
theorem wd_2_139 : Cond.methodLink RX5 250 yX5_whyNotNewCustomer ∈ TB := tb2 (List.mem_of_getElem? (i := 139) rfl) rfl
set_option maxRecDepth 100000 in
theorem wd_2_140 : Cond.instanceMethod yX5_whyNotNewCustomer ∈ TB := tb2 (List.mem_of_getElem? (i := 140) rfl) rfl
set_option maxRecDepth 100000 in
theorem wd_2_141 : Cond.selects RX5 yX5_whyNotNewCustomer yX5_whyNotNewCustomer ∈ TB := tb2 (List.mem_of_getElem? (i := 141) rfl) rfl
set_option maxRecDepth 100000 in
theorem wd_2_142 : Cond.code yX5_whyNotNewCustomer cX5_whyNotNewCustomer 1 (some .int) ∈ TB := tb2 (List.mem_of_getElem? (i := 142) rfl) rfl
set_option maxRecDepth 100000 in
theorem wd_2_143 : Cond.methodLink RX5 253 yX5_whyNotLet ∈ TB := tb2 (List.mem_of_getElem? (i := 143) rfl) rfl
set_option maxRecDepth 100000 in
theorem wd_2_144 : Cond.instanceMethod yX5_whyNotLet ∈ TB := tb2 (List.mem_of_getElem? (i := 144) rfl) rfl
set_option maxRecDepth 100000 in
theorem wd_2_145 : Cond.selects RX5 yX5_whyNotLet yX5_whyNotLet ∈ TB := tb2 (List.mem_of_getElem? (i := 145) rfl) rfl
set_option maxRecDepth 100000 in
theorem wd_2_146 : Cond.code yX5_whyNotLet cX5_whyNotLet 4 (some .int) ∈ TB := tb2 (List.mem_of_getElem? (i := 146) rfl) rfl
set_option maxRecDepth 100000 in
theorem wd_2_147 : Cond.methodLink RX5 119 yX5_hasCustomer ∈ TB := tb2 (List.mem_of_getElem? (i := 147) rfl) rfl
set_option maxRecDepth 100000 in
theorem wd_2_148 : Cond.instanceMethod yX5_hasCustomer ∈ TB := tb2 (List.mem_of_getElem? (i := 148) rfl) rfl
set_option maxRecDepth 100000 in
theorem wd_2_149 : Cond.selects RX5 yX5_hasCustomer yX5_hasCustomer ∈ TB := tb2 (List.mem_of_getElem? (i := 149) rfl) rfl
set_option maxRecDepth 100000 in
theorem wd_2_150 : Cond.code yX5_hasCustomer cX5_hasCustomer 2 (some .boolean) ∈ TB := tb2 (List.mem_of_getElem? (i := 150) rfl) rfl
set_option maxRecDepth 100000 in
theorem wd_2_151 : Cond.methodLink RX5 104 yX5_hasDot ∈ TB := tb2 (List.mem_of_getElem? (i := 151) rfl) rfl
set_option maxRecDepth 100000 in
theorem wd_2_152 : Cond.instanceMethod yX5_hasDot ∈ TB := tb2 (List.mem_of_getElem? (i := 152) rfl) rfl
set_option maxRecDepth 100000 in
theorem wd_2_153 : Cond.selects RX5 yX5_hasDot yX5_hasDot ∈ TB := tb2 (List.mem_of_getElem? (i := 153) rfl) rfl
set_option maxRecDepth 100000 in
theorem wd_2_154 : Cond.code yX5_hasDot cX5_hasDot 2 (some .boolean) ∈ TB := tb2 (List.mem_of_getElem? (i := 154) rfl) rfl
set_option maxRecDepth 100000 in
theorem wd_2_155 : Cond.methodLink RX5 122 yX5_othersRentOneOf ∈ TB := tb2 (List.mem_of_getElem? (i := 155) rfl) rfl
set_option maxRecDepth 100000 in
theorem wd_2_157 : Cond.instanceMethod yX5_othersRentOneOf ∈ TB := tb2 (List.mem_of_getElem? (i := 157) rfl) rfl
set_option maxRecDepth 100000 in
theorem wd_2_158 : Cond.code yX5_othersRentOneOf cX5_othersRentOneOf 5 (some .boolean) ∈ TB := tb2 (List.mem_of_getElem? (i := 158) rfl) rfl
set_option maxRecDepth 100000 in
theorem wd_2_159 : Cond.methodLink RX5 209 yX2_rentsOneOf ∈ TB := tb2 (List.mem_of_getElem? (i := 159) rfl) rfl
set_option maxRecDepth 100000 in
theorem wd_2_160 : Cond.instanceMethod yX2_rentsOneOf ∈ TB := tb2 (List.mem_of_getElem? (i := 160) rfl) rfl
set_option maxRecDepth 100000 in
theorem wd_2_161 : Cond.selects RX2 yX2_rentsOneOf yX2_rentsOneOf ∈ TB := tb2 (List.mem_of_getElem? (i := 161) rfl) rfl
set_option maxRecDepth 100000 in
theorem wd_2_162 : Cond.code yX2_rentsOneOf cX2_rentsOneOf 3 (some .boolean) ∈ TB := tb2 (List.mem_of_getElem? (i := 162) rfl) rfl
set_option maxRecDepth 100000 in
theorem wd_2_163 : Cond.methodLink RX5 256 yX5_whyNotPrintAt ∈ TB := tb2 (List.mem_of_getElem? (i := 163) rfl) rfl
set_option maxRecDepth 100000 in
theorem wd_2_164 : Cond.instanceMethod yX5_whyNotPrintAt ∈ TB := tb2 (List.mem_of_getElem? (i := 164) rfl) rfl
set_option maxRecDepth 100000 in
theorem wd_2_165 : Cond.selects RX5 yX5_whyNotPrintAt yX5_whyNotPrintAt ∈ TB := tb2 (List.mem_of_getElem? (i := 165) rfl) rfl
set_option maxRecDepth 100000 in
theorem wd_2_166 : Cond.code yX5_whyNotPrintAt cX5_whyNotPrintAt 5 (some .int) ∈ TB := tb2 (List.mem_of_getElem? (i := 166) rfl) rfl
set_option maxRecDepth 100000 in
theorem wd_2_167 : Cond.methodLink RX5 138 yX5_whyNotAskAbout ∈ TB := tb2 (List.mem_of_getElem? (i := 167) rfl) rfl
set_option maxRecDepth 100000 in
theorem wd_2_168 : Cond.instanceMethod yX5_whyNotAskAbout ∈ TB := tb2 (List.mem_of_getElem? (i := 168) rfl) rfl
set_option maxRecDepth 100000 in
theorem wd_2_169 : Cond.selects RX5 yX5_whyNotAskAbout yX5_whyNotAskAbout ∈ TB := tb2 (List.mem_of_getElem? (i := 169) rfl) rfl
set_option maxRecDepth 100000 in
theorem wd_2_170 : Cond.code yX5_whyNotAskAbout cX5_whyNotAskAbout 4 (some .int) ∈ TB := tb2 (List.mem_of_getElem? (i := 170) rfl) rfl
set_option maxRecDepth 100000 in
theorem wd_2_171 : Cond.methodLink RX5 142 yX5_reasonAt ∈ TB := tb2 (List.mem_of_getElem? (i := 171) rfl) rfl
set_option maxRecDepth 100000 in
theorem wd_2_172 : Cond.instanceMethod yX5_reasonAt ∈ TB := tb2 (List.mem_of_getElem? (i := 172) rfl) rfl
set_option maxRecDepth 100000 in
theorem wd_2_173 : Cond.selects RX5 yX5_reasonAt yX5_reasonAt ∈ TB := tb2 (List.mem_of_getElem? (i := 173) rfl) rfl
set_option maxRecDepth 100000 in
theorem wd_2_174 : Cond.code yX5_reasonAt cX5_reasonAt 5 (some .int) ∈ TB := tb2 (List.mem_of_getElem? (i := 174) rfl) rfl
set_option maxRecDepth 100000 in
theorem wd_2_175 : Cond.methodLink RX5 213 yX4_blackCells ∈ TB := tb2 (List.mem_of_getElem? (i := 175) rfl) rfl
set_option maxRecDepth 100000 in
theorem wd_2_176 : Cond.instanceMethod yX4_blackCells ∈ TB := tb2 (List.mem_of_getElem? (i := 176) rfl) rfl
set_option maxRecDepth 100000 in
theorem wd_2_177 : Cond.selects RX4 yX4_blackCells yX4_blackCells ∈ TB := tb2 (List.mem_of_getElem? (i := 177) rfl) rfl
set_option maxRecDepth 100000 in
theorem wd_2_178 : Cond.code yX4_blackCells cX4_blackCells 3 (some .int) ∈ TB := tb2 (List.mem_of_getElem? (i := 178) rfl) rfl
set_option maxRecDepth 100000 in
theorem wd_2_179 : Cond.methodLink RX4 34 yJ6_bitCount_0f7a4 ∈ TB := tb2 (List.mem_of_getElem? (i := 179) rfl) rfl
set_option maxRecDepth 100000 in
theorem wd_2_180 : Cond.static yJ6_bitCount_0f7a4 ∈ TB := tb2 (List.mem_of_getElem? (i := 180) rfl) rfl
set_option maxRecDepth 100000 in
theorem wd_2_181 : Cond.code yJ6_bitCount_0f7a4 cJ6_bitCount_0f7a4 1 (some .int) ∈ TB := tb2 (List.mem_of_getElem? (i := 181) rfl) rfl
set_option maxRecDepth 100000 in
theorem wd_2_182 : Cond.constant RJ6 265 (1431655765) ∈ TB := tb2 (List.mem_of_getElem? (i := 182) rfl) rfl
set_option maxRecDepth 100000 in
theorem wd_2_183 : Cond.constant RJ6 266 (858993459) ∈ TB := tb2 (List.mem_of_getElem? (i := 183) rfl) rfl
set_option maxRecDepth 100000 in
theorem wd_2_184 : Cond.constant RJ6 267 (252645135) ∈ TB := tb2 (List.mem_of_getElem? (i := 184) rfl) rfl
set_option maxRecDepth 100000 in
theorem wd_2_185 : Cond.methodLink RX5 259 yX5_whyNotPrintAtBest ∈ TB := tb2 (List.mem_of_getElem? (i := 185) rfl) rfl
set_option maxRecDepth 100000 in
theorem wd_2_186 : Cond.instanceMethod yX5_whyNotPrintAtBest ∈ TB := tb2 (List.mem_of_getElem? (i := 186) rfl) rfl
set_option maxRecDepth 100000 in
theorem wd_2_187 : Cond.selects RX5 yX5_whyNotPrintAtBest yX5_whyNotPrintAtBest ∈ TB := tb2 (List.mem_of_getElem? (i := 187) rfl) rfl
set_option maxRecDepth 100000 in
theorem wd_2_188 : Cond.code yX5_whyNotPrintAtBest cX5_whyNotPrintAtBest 3 (some .int) ∈ TB := tb2 (List.mem_of_getElem? (i := 188) rfl) rfl
set_option maxRecDepth 100000 in
theorem wd_2_189 : Cond.methodLink RX5 170 yX5_whyNotPair ∈ TB := tb2 (List.mem_of_getElem? (i := 189) rfl) rfl
set_option maxRecDepth 100000 in
theorem wd_2_190 : Cond.instanceMethod yX5_whyNotPair ∈ TB := tb2 (List.mem_of_getElem? (i := 190) rfl) rfl
set_option maxRecDepth 100000 in
theorem wd_2_191 : Cond.selects RX5 yX5_whyNotPair yX5_whyNotPair ∈ TB := tb2 (List.mem_of_getElem? (i := 191) rfl) rfl
set_option maxRecDepth 100000 in
theorem wd_2_192 : Cond.code yX5_whyNotPair cX5_whyNotPair 3 (some .int) ∈ TB := tb2 (List.mem_of_getElem? (i := 192) rfl) rfl
set_option maxRecDepth 100000 in
theorem wd_2_193 : Cond.methodLink RX5 174 yX5_bestPlace ∈ TB := tb2 (List.mem_of_getElem? (i := 193) rfl) rfl
set_option maxRecDepth 100000 in
theorem wd_2_194 : Cond.instanceMethod yX5_bestPlace ∈ TB := tb2 (List.mem_of_getElem? (i := 194) rfl) rfl
set_option maxRecDepth 100000 in
theorem wd_2_195 : Cond.selects RX5 yX5_bestPlace yX5_bestPlace ∈ TB := tb2 (List.mem_of_getElem? (i := 195) rfl) rfl
set_option maxRecDepth 100000 in
theorem wd_2_196 : Cond.code yX5_bestPlace cX5_bestPlace 9 (some .int) ∈ TB := tb2 (List.mem_of_getElem? (i := 196) rfl) rfl
set_option maxRecDepth 100000 in
theorem wd_2_197 : Cond.methodLink RX5 228 yX5_unreadableAt ∈ TB := tb2 (List.mem_of_getElem? (i := 197) rfl) rfl
set_option maxRecDepth 100000 in
theorem wd_2_198 : Cond.instanceMethod yX5_unreadableAt ∈ TB := tb2 (List.mem_of_getElem? (i := 198) rfl) rfl
set_option maxRecDepth 100000 in
theorem wd_2_199 : Cond.selects RX5 yX5_unreadableAt yX5_unreadableAt ∈ TB := tb2 (List.mem_of_getElem? (i := 199) rfl) rfl
set_option maxRecDepth 100000 in
theorem wd_2_200 : Cond.code yX5_unreadableAt cX5_unreadableAt 3 (some .int) ∈ TB := tb2 (List.mem_of_getElem? (i := 200) rfl) rfl
set_option maxRecDepth 100000 in
theorem wd_2_201 : Cond.methodLink RX5 224 yX3_takePart ∈ TB := tb2 (List.mem_of_getElem? (i := 201) rfl) rfl
set_option maxRecDepth 100000 in
theorem wd_2_202 : Cond.instanceMethod yX3_takePart ∈ TB := tb2 (List.mem_of_getElem? (i := 202) rfl) rfl
set_option maxRecDepth 100000 in
theorem wd_2_203 : Cond.selects RX3 yX3_takePart yX3_takePart ∈ TB := tb2 (List.mem_of_getElem? (i := 203) rfl) rfl
set_option maxRecDepth 100000 in
theorem wd_2_204 : Cond.code yX3_takePart cX3_takePart 4 none ∈ TB := tb2 (List.mem_of_getElem? (i := 204) rfl) rfl
set_option maxRecDepth 100000 in
theorem wd_2_205 : Cond.methodLink RX5 148 yX3_printRows ∈ TB := tb2 (List.mem_of_getElem? (i := 205) rfl) rfl
set_option maxRecDepth 100000 in
theorem wd_2_206 : Cond.instanceMethod yX3_printRows ∈ TB := tb2 (List.mem_of_getElem? (i := 206) rfl) rfl
set_option maxRecDepth 100000 in
theorem wd_2_207 : Cond.selects RX3 yX3_printRows yX3_printRows ∈ TB := tb2 (List.mem_of_getElem? (i := 207) rfl) rfl
set_option maxRecDepth 100000 in
theorem wd_2_208 : Cond.code yX3_printRows cX3_printRows 9 (some .int) ∈ TB := tb2 (List.mem_of_getElem? (i := 208) rfl) rfl
set_option maxRecDepth 100000 in
theorem wd_2_209 : Cond.methodLink RX3 46 yX3_fadeOf ∈ TB := tb2 (List.mem_of_getElem? (i := 209) rfl) rfl
set_option maxRecDepth 100000 in
theorem wd_2_210 : Cond.instanceMethod yX3_fadeOf ∈ TB := tb2 (List.mem_of_getElem? (i := 210) rfl) rfl
set_option maxRecDepth 100000 in
theorem wd_2_211 : Cond.selects RX3 yX3_fadeOf yX3_fadeOf ∈ TB := tb2 (List.mem_of_getElem? (i := 211) rfl) rfl
set_option maxRecDepth 100000 in
theorem wd_2_212 : Cond.code yX3_fadeOf cX3_fadeOf 5 (some .int) ∈ TB := tb2 (List.mem_of_getElem? (i := 212) rfl) rfl
set_option maxRecDepth 100000 in
theorem wd_2_213 : Cond.methodLink RX3 53 yX3_burn ∈ TB := tb2 (List.mem_of_getElem? (i := 213) rfl) rfl
set_option maxRecDepth 100000 in
theorem wd_2_215 : Cond.instanceMethod yX3_burn ∈ TB := tb2 (List.mem_of_getElem? (i := 215) rfl) rfl
set_option maxRecDepth 100000 in
theorem wd_2_216 : Cond.code yX3_burn cX3_burn 4 none ∈ TB := tb2 (List.mem_of_getElem? (i := 216) rfl) rfl
set_option maxRecDepth 100000 in
theorem wd_2_217 : Cond.methodLink RX3 57 yX3_lose ∈ TB := tb2 (List.mem_of_getElem? (i := 217) rfl) rfl
set_option maxRecDepth 100000 in
theorem wd_2_218 : Cond.instanceMethod yX3_lose ∈ TB := tb2 (List.mem_of_getElem? (i := 218) rfl) rfl
set_option maxRecDepth 100000 in
theorem wd_2_219 : Cond.selects RX3 yX3_lose yX3_lose ∈ TB := tb2 (List.mem_of_getElem? (i := 219) rfl) rfl
set_option maxRecDepth 100000 in
theorem wd_2_220 : Cond.code yX3_lose cX3_lose 3 none ∈ TB := tb2 (List.mem_of_getElem? (i := 220) rfl) rfl
set_option maxRecDepth 100000 in
theorem wd_2_221 : Cond.methodLink RX5 145 yX5_priceAt ∈ TB := tb2 (List.mem_of_getElem? (i := 221) rfl) rfl
set_option maxRecDepth 100000 in
theorem wd_2_222 : Cond.instanceMethod yX5_priceAt ∈ TB := tb2 (List.mem_of_getElem? (i := 222) rfl) rfl
set_option maxRecDepth 100000 in
theorem wd_2_223 : Cond.selects RX5 yX5_priceAt yX5_priceAt ∈ TB := tb2 (List.mem_of_getElem? (i := 223) rfl) rfl
set_option maxRecDepth 100000 in
theorem wd_2_224 : Cond.code yX5_priceAt cX5_priceAt 8 (some .int) ∈ TB := tb2 (List.mem_of_getElem? (i := 224) rfl) rfl
set_option maxRecDepth 100000 in
theorem wd_2_225 : Cond.methodLink RX5 216 yX2_rentsAllOf ∈ TB := tb2 (List.mem_of_getElem? (i := 225) rfl) rfl
set_option maxRecDepth 100000 in
theorem wd_2_226 : Cond.instanceMethod yX2_rentsAllOf ∈ TB := tb2 (List.mem_of_getElem? (i := 226) rfl) rfl
set_option maxRecDepth 100000 in
theorem wd_2_227 : Cond.selects RX2 yX2_rentsAllOf yX2_rentsAllOf ∈ TB := tb2 (List.mem_of_getElem? (i := 227) rfl) rfl
set_option maxRecDepth 100000 in
theorem wd_2_228 : Cond.code yX2_rentsAllOf cX2_rentsAllOf 3 (some .boolean) ∈ TB := tb2 (List.mem_of_getElem? (i := 228) rfl) rfl
set_option maxRecDepth 100000 in
theorem wd_2_229 : Cond.methodLink RX5 206 yX3_wearSum ∈ TB := tb2 (List.mem_of_getElem? (i := 229) rfl) rfl
set_option maxRecDepth 100000 in
theorem wd_2_230 : Cond.instanceMethod yX3_wearSum ∈ TB := tb2 (List.mem_of_getElem? (i := 230) rfl) rfl
set_option maxRecDepth 100000 in
theorem wd_2_231 : Cond.selects RX3 yX3_wearSum yX3_wearSum ∈ TB := tb2 (List.mem_of_getElem? (i := 231) rfl) rfl
set_option maxRecDepth 100000 in
theorem wd_2_232 : Cond.code yX3_wearSum cX3_wearSum 5 (some .int) ∈ TB := tb2 (List.mem_of_getElem? (i := 232) rfl) rfl
set_option maxRecDepth 100000 in
theorem wd_2_233 : Cond.methodLink RX5 219 Lib.Math.min.name ∈ TB := tb2 (List.mem_of_getElem? (i := 233) rfl) rfl
set_option maxRecDepth 100000 in
theorem wd_2_234 : Cond.static Lib.Math.min.name ∈ TB := tb2 (List.mem_of_getElem? (i := 234) rfl) rfl
set_option maxRecDepth 100000 in
theorem wd_2_235 : Cond.code Lib.Math.min.name Lib.Math.min.code 2 (some .int) ∈ TB := tb2 (List.mem_of_getElem? (i := 235) rfl) rfl
set_option maxRecDepth 100000 in
theorem wd_2_236 : Cond.methodLink RX5 262 yX5_whyNotPassLines ∈ TB := tb2 (List.mem_of_getElem? (i := 236) rfl) rfl
set_option maxRecDepth 100000 in
theorem wd_2_237 : Cond.instanceMethod yX5_whyNotPassLines ∈ TB := tb2 (List.mem_of_getElem? (i := 237) rfl) rfl
set_option maxRecDepth 100000 in
theorem wd_2_238 : Cond.selects RX5 yX5_whyNotPassLines yX5_whyNotPassLines ∈ TB := tb2 (List.mem_of_getElem? (i := 238) rfl) rfl
set_option maxRecDepth 100000 in
theorem wd_2_239 : Cond.code yX5_whyNotPassLines cX5_whyNotPassLines 2 (some .int) ∈ TB := tb2 (List.mem_of_getElem? (i := 239) rfl) rfl
set_option maxRecDepth 100000 in
theorem wd_3_0 : Cond.methodLink RX5 265 yX5_whyNotNewDot ∈ TB := tb3 (List.mem_of_getElem? (i := 0) rfl) rfl
set_option maxRecDepth 100000 in
theorem wd_3_1 : Cond.instanceMethod yX5_whyNotNewDot ∈ TB := tb3 (List.mem_of_getElem? (i := 1) rfl) rfl
set_option maxRecDepth 100000 in
theorem wd_3_2 : Cond.selects RX5 yX5_whyNotNewDot yX5_whyNotNewDot ∈ TB := tb3 (List.mem_of_getElem? (i := 2) rfl) rfl
set_option maxRecDepth 100000 in
theorem wd_3_3 : Cond.code yX5_whyNotNewDot cX5_whyNotNewDot 2 (some .int) ∈ TB := tb3 (List.mem_of_getElem? (i := 3) rfl) rfl
set_option maxRecDepth 100000 in
theorem wd_3_4 : Cond.methodLink RX5 268 yX5_whyNotChangeSetting ∈ TB := tb3 (List.mem_of_getElem? (i := 4) rfl) rfl
set_option maxRecDepth 100000 in
theorem wd_3_5 : Cond.instanceMethod yX5_whyNotChangeSetting ∈ TB := tb3 (List.mem_of_getElem? (i := 5) rfl) rfl
set_option maxRecDepth 100000 in
theorem wd_3_6 : Cond.selects RX5 yX5_whyNotChangeSetting yX5_whyNotChangeSetting ∈ TB := tb3 (List.mem_of_getElem? (i := 6) rfl) rfl
set_option maxRecDepth 100000 in
theorem wd_3_7 : Cond.code yX5_whyNotChangeSetting cX5_whyNotChangeSetting 3 (some .int) ∈ TB := tb3 (List.mem_of_getElem? (i := 7) rfl) rfl
set_option maxRecDepth 100000 in
theorem wd_3_12 : Cond.methodLink RX7 206 yX5_carryOut ∈ TB := tb3 (List.mem_of_getElem? (i := 12) rfl) rfl
set_option maxRecDepth 100000 in
theorem wd_3_13 : Cond.instanceMethod yX5_carryOut ∈ TB := tb3 (List.mem_of_getElem? (i := 13) rfl) rfl
set_option maxRecDepth 100000 in
theorem wd_3_14 : Cond.selects RX5 yX5_carryOut yX5_carryOut ∈ TB := tb3 (List.mem_of_getElem? (i := 14) rfl) rfl
set_option maxRecDepth 100000 in
theorem wd_3_15 : Cond.code yX5_carryOut cX5_carryOut 3 (some .int) ∈ TB := tb3 (List.mem_of_getElem? (i := 15) rfl) rfl
set_option maxRecDepth 100000 in
theorem wd_3_16 : Cond.methodLink RX5 271 yX5_newHead ∈ TB := tb3 (List.mem_of_getElem? (i := 16) rfl) rfl
set_option maxRecDepth 100000 in
theorem wd_3_17 : Cond.instanceMethod yX5_newHead ∈ TB := tb3 (List.mem_of_getElem? (i := 17) rfl) rfl
set_option maxRecDepth 100000 in
theorem wd_3_18 : Cond.selects RX5 yX5_newHead yX5_newHead ∈ TB := tb3 (List.mem_of_getElem? (i := 18) rfl) rfl
set_option maxRecDepth 100000 in
theorem wd_3_19 : Cond.code yX5_newHead cX5_newHead 4 (some .int) ∈ TB := tb3 (List.mem_of_getElem? (i := 19) rfl) rfl
set_option maxRecDepth 100000 in
theorem wd_3_20 : Cond.methodLink RX5 71 yX5_allWear ∈ TB := tb3 (List.mem_of_getElem? (i := 20) rfl) rfl
set_option maxRecDepth 100000 in
theorem wd_3_22 : Cond.instanceMethod yX5_allWear ∈ TB := tb3 (List.mem_of_getElem? (i := 22) rfl) rfl
set_option maxRecDepth 100000 in
theorem wd_3_23 : Cond.code yX5_allWear cX5_allWear 1 (some .int) ∈ TB := tb3 (List.mem_of_getElem? (i := 23) rfl) rfl
set_option maxRecDepth 100000 in
theorem wd_3_24 : Cond.methodLink RX5 75 yX3_renewAll ∈ TB := tb3 (List.mem_of_getElem? (i := 24) rfl) rfl
set_option maxRecDepth 100000 in
theorem wd_3_25 : Cond.instanceMethod yX3_renewAll ∈ TB := tb3 (List.mem_of_getElem? (i := 25) rfl) rfl
set_option maxRecDepth 100000 in
theorem wd_3_26 : Cond.selects RX3 yX3_renewAll yX3_renewAll ∈ TB := tb3 (List.mem_of_getElem? (i := 26) rfl) rfl
set_option maxRecDepth 100000 in
theorem wd_3_27 : Cond.code yX3_renewAll cX3_renewAll 3 none ∈ TB := tb3 (List.mem_of_getElem? (i := 27) rfl) rfl
set_option maxRecDepth 100000 in
theorem wd_3_28 : Cond.methodLink RX3 34 yX3_renew ∈ TB := tb3 (List.mem_of_getElem? (i := 28) rfl) rfl
set_option maxRecDepth 100000 in
theorem wd_3_29 : Cond.instanceMethod yX3_renew ∈ TB := tb3 (List.mem_of_getElem? (i := 29) rfl) rfl
set_option maxRecDepth 100000 in
theorem wd_3_30 : Cond.selects RX3 yX3_renew yX3_renew ∈ TB := tb3 (List.mem_of_getElem? (i := 30) rfl) rfl
set_option maxRecDepth 100000 in
theorem wd_3_31 : Cond.code yX3_renew cX3_renew 2 none ∈ TB := tb3 (List.mem_of_getElem? (i := 31) rfl) rfl
set_option maxRecDepth 100000 in
theorem wd_3_32 : Cond.methodLink RX5 79 yX2_rentNothing ∈ TB := tb3 (List.mem_of_getElem? (i := 32) rfl) rfl
set_option maxRecDepth 100000 in
theorem wd_3_33 : Cond.instanceMethod yX2_rentNothing ∈ TB := tb3 (List.mem_of_getElem? (i := 33) rfl) rfl
set_option maxRecDepth 100000 in
theorem wd_3_34 : Cond.selects RX2 yX2_rentNothing yX2_rentNothing ∈ TB := tb3 (List.mem_of_getElem? (i := 34) rfl) rfl
set_option maxRecDepth 100000 in
theorem wd_3_35 : Cond.code yX2_rentNothing cX2_rentNothing 1 none ∈ TB := tb3 (List.mem_of_getElem? (i := 35) rfl) rfl
set_option maxRecDepth 100000 in
theorem wd_3_36 : Cond.methodLink RX5 274 yX5_newLabel ∈ TB := tb3 (List.mem_of_getElem? (i := 36) rfl) rfl
set_option maxRecDepth 100000 in
theorem wd_3_37 : Cond.instanceMethod yX5_newLabel ∈ TB := tb3 (List.mem_of_getElem? (i := 37) rfl) rfl
set_option maxRecDepth 100000 in
theorem wd_3_38 : Cond.selects RX5 yX5_newLabel yX5_newLabel ∈ TB := tb3 (List.mem_of_getElem? (i := 38) rfl) rfl
set_option maxRecDepth 100000 in
theorem wd_3_39 : Cond.code yX5_newLabel cX5_newLabel 3 (some .int) ∈ TB := tb3 (List.mem_of_getElem? (i := 39) rfl) rfl
set_option maxRecDepth 100000 in
theorem wd_3_40 : Cond.methodLink RX5 277 yX5_changeRow ∈ TB := tb3 (List.mem_of_getElem? (i := 40) rfl) rfl
set_option maxRecDepth 100000 in
theorem wd_3_41 : Cond.instanceMethod yX5_changeRow ∈ TB := tb3 (List.mem_of_getElem? (i := 41) rfl) rfl
set_option maxRecDepth 100000 in
theorem wd_3_42 : Cond.selects RX5 yX5_changeRow yX5_changeRow ∈ TB := tb3 (List.mem_of_getElem? (i := 42) rfl) rfl
set_option maxRecDepth 100000 in
theorem wd_3_43 : Cond.code yX5_changeRow cX5_changeRow 5 (some .int) ∈ TB := tb3 (List.mem_of_getElem? (i := 43) rfl) rfl
set_option maxRecDepth 100000 in
theorem wd_3_44 : Cond.methodLink RX5 280 yX5_newCustomer ∈ TB := tb3 (List.mem_of_getElem? (i := 44) rfl) rfl
set_option maxRecDepth 100000 in
theorem wd_3_45 : Cond.instanceMethod yX5_newCustomer ∈ TB := tb3 (List.mem_of_getElem? (i := 45) rfl) rfl
set_option maxRecDepth 100000 in
theorem wd_3_46 : Cond.selects RX5 yX5_newCustomer yX5_newCustomer ∈ TB := tb3 (List.mem_of_getElem? (i := 46) rfl) rfl
set_option maxRecDepth 100000 in
theorem wd_3_47 : Cond.code yX5_newCustomer cX5_newCustomer 1 (some .int) ∈ TB := tb3 (List.mem_of_getElem? (i := 47) rfl) rfl
set_option maxRecDepth 100000 in
theorem wd_3_48 : Cond.methodLink RX5 283 yX5_let ∈ TB := tb3 (List.mem_of_getElem? (i := 48) rfl) rfl
set_option maxRecDepth 100000 in
theorem wd_3_49 : Cond.instanceMethod yX5_let ∈ TB := tb3 (List.mem_of_getElem? (i := 49) rfl) rfl
set_option maxRecDepth 100000 in
theorem wd_3_50 : Cond.selects RX5 yX5_let yX5_let ∈ TB := tb3 (List.mem_of_getElem? (i := 50) rfl) rfl
set_option maxRecDepth 100000 in
theorem wd_3_51 : Cond.code yX5_let cX5_let 4 (some .int) ∈ TB := tb3 (List.mem_of_getElem? (i := 51) rfl) rfl
set_option maxRecDepth 100000 in
theorem wd_3_52 : Cond.methodLink RX5 132 yX5_allRented ∈ TB := tb3 (List.mem_of_getElem? (i := 52) rfl) rfl
set_option maxRecDepth 100000 in
theorem wd_3_54 : Cond.instanceMethod yX5_allRented ∈ TB := tb3 (List.mem_of_getElem? (i := 54) rfl) rfl
set_option maxRecDepth 100000 in
theorem wd_3_55 : Cond.code yX5_allRented cX5_allRented 3 (some .int) ∈ TB := tb3 (List.mem_of_getElem? (i := 55) rfl) rfl
set_option maxRecDepth 100000 in
theorem wd_3_56 : Cond.methodLink RX5 135 yX2_rented ∈ TB := tb3 (List.mem_of_getElem? (i := 56) rfl) rfl
set_option maxRecDepth 100000 in
theorem wd_3_57 : Cond.instanceMethod yX2_rented ∈ TB := tb3 (List.mem_of_getElem? (i := 57) rfl) rfl
set_option maxRecDepth 100000 in
theorem wd_3_58 : Cond.selects RX2 yX2_rented yX2_rented ∈ TB := tb3 (List.mem_of_getElem? (i := 58) rfl) rfl
set_option maxRecDepth 100000 in
theorem wd_3_59 : Cond.code yX2_rented cX2_rented 1 (some .int) ∈ TB := tb3 (List.mem_of_getElem? (i := 59) rfl) rfl
set_option maxRecDepth 100000 in
theorem wd_3_60 : Cond.methodLink RX5 177 yX5_printAt ∈ TB := tb3 (List.mem_of_getElem? (i := 60) rfl) rfl
set_option maxRecDepth 100000 in
theorem wd_3_61 : Cond.instanceMethod yX5_printAt ∈ TB := tb3 (List.mem_of_getElem? (i := 61) rfl) rfl
set_option maxRecDepth 100000 in
theorem wd_3_62 : Cond.selects RX5 yX5_printAt yX5_printAt ∈ TB := tb3 (List.mem_of_getElem? (i := 62) rfl) rfl
set_option maxRecDepth 100000 in
theorem wd_3_63 : Cond.code yX5_printAt cX5_printAt 6 (some .int) ∈ TB := tb3 (List.mem_of_getElem? (i := 63) rfl) rfl
set_option maxRecDepth 100000 in
theorem wd_3_64 : Cond.methodLink RX5 152 yX5_book ∈ TB := tb3 (List.mem_of_getElem? (i := 64) rfl) rfl
set_option maxRecDepth 100000 in
theorem wd_3_66 : Cond.instanceMethod yX5_book ∈ TB := tb3 (List.mem_of_getElem? (i := 66) rfl) rfl
set_option maxRecDepth 100000 in
theorem wd_3_67 : Cond.code yX5_book cX5_book 5 none ∈ TB := tb3 (List.mem_of_getElem? (i := 67) rfl) rfl
set_option maxRecDepth 100000 in
theorem wd_3_68 : Cond.methodLink RX5 286 yX5_printAtBest ∈ TB := tb3 (List.mem_of_getElem? (i := 68) rfl) rfl
set_option maxRecDepth 100000 in
theorem wd_3_69 : Cond.instanceMethod yX5_printAtBest ∈ TB := tb3 (List.mem_of_getElem? (i := 69) rfl) rfl
set_option maxRecDepth 100000 in
theorem wd_3_70 : Cond.selects RX5 yX5_printAtBest yX5_printAtBest ∈ TB := tb3 (List.mem_of_getElem? (i := 70) rfl) rfl
set_option maxRecDepth 100000 in
theorem wd_3_71 : Cond.code yX5_printAtBest cX5_printAtBest 4 (some .int) ∈ TB := tb3 (List.mem_of_getElem? (i := 71) rfl) rfl
set_option maxRecDepth 100000 in
theorem wd_3_72 : Cond.methodLink RX5 289 yX5_passLines ∈ TB := tb3 (List.mem_of_getElem? (i := 72) rfl) rfl
set_option maxRecDepth 100000 in
theorem wd_3_73 : Cond.instanceMethod yX5_passLines ∈ TB := tb3 (List.mem_of_getElem? (i := 73) rfl) rfl
set_option maxRecDepth 100000 in
theorem wd_3_74 : Cond.selects RX5 yX5_passLines yX5_passLines ∈ TB := tb3 (List.mem_of_getElem? (i := 74) rfl) rfl
set_option maxRecDepth 100000 in
theorem wd_3_75 : Cond.code yX5_passLines cX5_passLines 2 (some .int) ∈ TB := tb3 (List.mem_of_getElem? (i := 75) rfl) rfl
set_option maxRecDepth 100000 in
theorem wd_3_76 : Cond.methodLink RX5 113 yX3_lose ∈ TB := tb3 (List.mem_of_getElem? (i := 76) rfl) rfl
set_option maxRecDepth 100000 in
theorem wd_3_77 : Cond.methodLink RX5 116 yX3_heatSum ∈ TB := tb3 (List.mem_of_getElem? (i := 77) rfl) rfl
set_option maxRecDepth 100000 in
theorem wd_3_78 : Cond.instanceMethod yX3_heatSum ∈ TB := tb3 (List.mem_of_getElem? (i := 78) rfl) rfl
set_option maxRecDepth 100000 in
theorem wd_3_79 : Cond.selects RX3 yX3_heatSum yX3_heatSum ∈ TB := tb3 (List.mem_of_getElem? (i := 79) rfl) rfl
set_option maxRecDepth 100000 in
theorem wd_3_80 : Cond.code yX3_heatSum cX3_heatSum 3 (some .int) ∈ TB := tb3 (List.mem_of_getElem? (i := 80) rfl) rfl
set_option maxRecDepth 100000 in
theorem wd_3_81 : Cond.methodLink RX5 292 yX5_newDot ∈ TB := tb3 (List.mem_of_getElem? (i := 81) rfl) rfl
set_option maxRecDepth 100000 in
theorem wd_3_82 : Cond.instanceMethod yX5_newDot ∈ TB := tb3 (List.mem_of_getElem? (i := 82) rfl) rfl
set_option maxRecDepth 100000 in
theorem wd_3_83 : Cond.selects RX5 yX5_newDot yX5_newDot ∈ TB := tb3 (List.mem_of_getElem? (i := 83) rfl) rfl
set_option maxRecDepth 100000 in
theorem wd_3_84 : Cond.code yX5_newDot cX5_newDot 3 (some .int) ∈ TB := tb3 (List.mem_of_getElem? (i := 84) rfl) rfl
set_option maxRecDepth 100000 in
theorem wd_3_85 : Cond.methodLink RX5 110 yX3_renew ∈ TB := tb3 (List.mem_of_getElem? (i := 85) rfl) rfl
set_option maxRecDepth 100000 in
theorem wd_3_86 : Cond.methodLink RX5 295 yX5_changeSetting ∈ TB := tb3 (List.mem_of_getElem? (i := 86) rfl) rfl
set_option maxRecDepth 100000 in
theorem wd_3_87 : Cond.instanceMethod yX5_changeSetting ∈ TB := tb3 (List.mem_of_getElem? (i := 87) rfl) rfl
set_option maxRecDepth 100000 in
theorem wd_3_88 : Cond.selects RX5 yX5_changeSetting yX5_changeSetting ∈ TB := tb3 (List.mem_of_getElem? (i := 88) rfl) rfl
set_option maxRecDepth 100000 in
theorem wd_3_89 : Cond.code yX5_changeSetting cX5_changeSetting 4 (some .int) ∈ TB := tb3 (List.mem_of_getElem? (i := 89) rfl) rfl
set_option maxRecDepth 100000 in
theorem wd_3_94 : Cond.constantLong RX7 216 (43448) ∈ TB := tb3 (List.mem_of_getElem? (i := 94) rfl) rfl
set_option maxRecDepth 100000 in
theorem wd_3_95 : Cond.methodLink RX7 218 yX7_mix ∈ TB := tb3 (List.mem_of_getElem? (i := 95) rfl) rfl
set_option maxRecDepth 100000 in
theorem wd_3_96 : Cond.static yX7_mix ∈ TB := tb3 (List.mem_of_getElem? (i := 96) rfl) rfl
set_option maxRecDepth 100000 in
theorem wd_3_97 : Cond.code yX7_mix cX7_mix 4 (some .long) ∈ TB := tb3 (List.mem_of_getElem? (i := 97) rfl) rfl
set_option maxRecDepth 100000 in
theorem wd_3_98 : Cond.constantLong RX7 247 (31) ∈ TB := tb3 (List.mem_of_getElem? (i := 98) rfl) rfl
set_option maxRecDepth 100000 in
theorem wd_3_99 : Cond.methodLink RX7 222 yX7_whole ∈ TB := tb3 (List.mem_of_getElem? (i := 99) rfl) rfl
set_option maxRecDepth 100000 in
theorem wd_3_100 : Cond.instanceMethod yX7_whole ∈ TB := tb3 (List.mem_of_getElem? (i := 100) rfl) rfl
set_option maxRecDepth 100000 in
theorem wd_3_101 : Cond.selects RX7 yX7_whole yX7_whole ∈ TB := tb3 (List.mem_of_getElem? (i := 101) rfl) rfl
set_option maxRecDepth 100000 in
theorem wd_3_102 : Cond.code yX7_whole cX7_whole 2 (some .int) ∈ TB := tb3 (List.mem_of_getElem? (i := 102) rfl) rfl
set_option maxRecDepth 100000 in
theorem wd_3_103 : Cond.methodLink RX7 36 yX7_refuse ∈ TB := tb3 (List.mem_of_getElem? (i := 103) rfl) rfl
set_option maxRecDepth 100000 in
theorem wd_3_104 : Cond.static yX7_refuse ∈ TB := tb3 (List.mem_of_getElem? (i := 104) rfl) rfl
set_option maxRecDepth 100000 in
theorem wd_3_105 : Cond.code yX7_refuse cX7_refuse 1 none ∈ TB := tb3 (List.mem_of_getElem? (i := 105) rfl) rfl
set_option maxRecDepth 100000 in
theorem wd_3_106 : Cond.classLink RX7 249 "java/lang/IndexOutOfBoundsException" ∈ TB := tb3 (List.mem_of_getElem? (i := 106) rfl) rfl
set_option maxRecDepth 100000 in
theorem wd_3_174 : Cond.classLink RX7 256 "java/lang/IllegalArgumentException" ∈ TB := tb3 (List.mem_of_getElem? (i := 174) rfl) rfl
set_option maxRecDepth 100000 in
theorem wd_3_190 : Cond.classLink RX7 261 "java/lang/IllegalStateException" ∈ TB := tb3 (List.mem_of_getElem? (i := 190) rfl) rfl
set_option maxRecDepth 100000 in
theorem wd_3_206 : Cond.methodLink RX7 145 yX5_wholeValue ∈ TB := tb3 (List.mem_of_getElem? (i := 206) rfl) rfl
set_option maxRecDepth 100000 in
theorem wd_3_207 : Cond.instanceMethod yX5_wholeValue ∈ TB := tb3 (List.mem_of_getElem? (i := 207) rfl) rfl
set_option maxRecDepth 100000 in
theorem wd_3_208 : Cond.selects RX5 yX5_wholeValue yX5_wholeValue ∈ TB := tb3 (List.mem_of_getElem? (i := 208) rfl) rfl
set_option maxRecDepth 100000 in
theorem wd_3_209 : Cond.code yX5_wholeValue cX5_wholeValue 2 (some .int) ∈ TB := tb3 (List.mem_of_getElem? (i := 209) rfl) rfl
set_option maxRecDepth 100000 in
theorem wd_3_210 : Cond.methodLink RX5 197 yX5_allPrinted ∈ TB := tb3 (List.mem_of_getElem? (i := 210) rfl) rfl
set_option maxRecDepth 100000 in
theorem wd_3_212 : Cond.instanceMethod yX5_allPrinted ∈ TB := tb3 (List.mem_of_getElem? (i := 212) rfl) rfl
set_option maxRecDepth 100000 in
theorem wd_3_213 : Cond.code yX5_allPrinted cX5_allPrinted 3 (some .int) ∈ TB := tb3 (List.mem_of_getElem? (i := 213) rfl) rfl
set_option maxRecDepth 100000 in
theorem wd_3_214 : Cond.methodLink RX5 200 yX5_allFailed ∈ TB := tb3 (List.mem_of_getElem? (i := 214) rfl) rfl
set_option maxRecDepth 100000 in
theorem wd_3_216 : Cond.instanceMethod yX5_allFailed ∈ TB := tb3 (List.mem_of_getElem? (i := 216) rfl) rfl
set_option maxRecDepth 100000 in
theorem wd_3_217 : Cond.code yX5_allFailed cX5_allFailed 3 (some .int) ∈ TB := tb3 (List.mem_of_getElem? (i := 217) rfl) rfl
set_option maxRecDepth 100000 in
theorem wd_3_218 : Cond.methodLink RX5 203 yX5_allEarned ∈ TB := tb3 (List.mem_of_getElem? (i := 218) rfl) rfl
set_option maxRecDepth 100000 in
theorem wd_3_220 : Cond.instanceMethod yX5_allEarned ∈ TB := tb3 (List.mem_of_getElem? (i := 220) rfl) rfl
set_option maxRecDepth 100000 in
theorem wd_3_221 : Cond.code yX5_allEarned cX5_allEarned 3 (some .int) ∈ TB := tb3 (List.mem_of_getElem? (i := 221) rfl) rfl
set_option maxRecDepth 100000 in
theorem wd_3_222 : Cond.methodLink RX7 225 yX7_mixDots ∈ TB := tb3 (List.mem_of_getElem? (i := 222) rfl) rfl
set_option maxRecDepth 100000 in
theorem wd_3_224 : Cond.instanceMethod yX7_mixDots ∈ TB := tb3 (List.mem_of_getElem? (i := 224) rfl) rfl
set_option maxRecDepth 100000 in
theorem wd_3_225 : Cond.code yX7_mixDots cX7_mixDots 7 (some .long) ∈ TB := tb3 (List.mem_of_getElem? (i := 225) rfl) rfl
set_option maxRecDepth 100000 in
theorem wd_3_226 : Cond.methodLink RX7 112 yX5_dotValue ∈ TB := tb3 (List.mem_of_getElem? (i := 226) rfl) rfl
set_option maxRecDepth 100000 in
theorem wd_3_227 : Cond.instanceMethod yX5_dotValue ∈ TB := tb3 (List.mem_of_getElem? (i := 227) rfl) rfl
set_option maxRecDepth 100000 in
theorem wd_3_228 : Cond.selects RX5 yX5_dotValue yX5_dotValue ∈ TB := tb3 (List.mem_of_getElem? (i := 228) rfl) rfl
set_option maxRecDepth 100000 in
theorem wd_3_229 : Cond.code yX5_dotValue cX5_dotValue 3 (some .int) ∈ TB := tb3 (List.mem_of_getElem? (i := 229) rfl) rfl
set_option maxRecDepth 100000 in
theorem wd_3_230 : Cond.methodLink RX5 183 yX5_renterOf ∈ TB := tb3 (List.mem_of_getElem? (i := 230) rfl) rfl
set_option maxRecDepth 100000 in
theorem wd_3_232 : Cond.instanceMethod yX5_renterOf ∈ TB := tb3 (List.mem_of_getElem? (i := 232) rfl) rfl
set_option maxRecDepth 100000 in
theorem wd_3_233 : Cond.code yX5_renterOf cX5_renterOf 3 (some .int) ∈ TB := tb3 (List.mem_of_getElem? (i := 233) rfl) rfl
set_option maxRecDepth 100000 in
theorem wd_3_234 : Cond.methodLink RX5 190 yX3_fadeOf ∈ TB := tb3 (List.mem_of_getElem? (i := 234) rfl) rfl
set_option maxRecDepth 100000 in
theorem wd_3_235 : Cond.methodLink RX7 229 yX7_mixLabels ∈ TB := tb3 (List.mem_of_getElem? (i := 235) rfl) rfl
set_option maxRecDepth 100000 in
theorem wd_3_237 : Cond.instanceMethod yX7_mixLabels ∈ TB := tb3 (List.mem_of_getElem? (i := 237) rfl) rfl
set_option maxRecDepth 100000 in
theorem wd_3_238 : Cond.code yX7_mixLabels cX7_mixLabels 8 (some .long) ∈ TB := tb3 (List.mem_of_getElem? (i := 238) rfl) rfl
set_option maxRecDepth 100000 in
theorem wd_3_239 : Cond.methodLink RX7 122 yX4_value ∈ TB := tb3 (List.mem_of_getElem? (i := 239) rfl) rfl
set_option maxRecDepth 100000 in
theorem wd_4_0 : Cond.instanceMethod yX4_value ∈ TB := tb4 (List.mem_of_getElem? (i := 0) rfl) rfl
set_option maxRecDepth 100000 in
theorem wd_4_1 : Cond.selects RX4 yX4_value yX4_value ∈ TB := tb4 (List.mem_of_getElem? (i := 1) rfl) rfl
set_option maxRecDepth 100000 in
theorem wd_4_2 : Cond.code yX4_value cX4_value 2 (some .int) ∈ TB := tb4 (List.mem_of_getElem? (i := 2) rfl) rfl
set_option maxRecDepth 100000 in
theorem wd_4_3 : Cond.methodLink RX4 44 yX4_blackCells ∈ TB := tb4 (List.mem_of_getElem? (i := 3) rfl) rfl
set_option maxRecDepth 100000 in
theorem wd_4_4 : Cond.methodLink RX4 47 yX4_emptyColumns ∈ TB := tb4 (List.mem_of_getElem? (i := 4) rfl) rfl
set_option maxRecDepth 100000 in
theorem wd_4_5 : Cond.instanceMethod yX4_emptyColumns ∈ TB := tb4 (List.mem_of_getElem? (i := 5) rfl) rfl
set_option maxRecDepth 100000 in
theorem wd_4_6 : Cond.selects RX4 yX4_emptyColumns yX4_emptyColumns ∈ TB := tb4 (List.mem_of_getElem? (i := 6) rfl) rfl
set_option maxRecDepth 100000 in
theorem wd_4_7 : Cond.code yX4_emptyColumns cX4_emptyColumns 3 (some .int) ∈ TB := tb4 (List.mem_of_getElem? (i := 7) rfl) rfl
set_option maxRecDepth 100000 in
theorem wd_4_8 : Cond.methodLink RX4 40 yX4_allColumns ∈ TB := tb4 (List.mem_of_getElem? (i := 8) rfl) rfl
set_option maxRecDepth 100000 in
theorem wd_4_9 : Cond.methodLink RX7 232 yX7_mixCustomers ∈ TB := tb4 (List.mem_of_getElem? (i := 9) rfl) rfl
set_option maxRecDepth 100000 in
theorem wd_4_11 : Cond.instanceMethod yX7_mixCustomers ∈ TB := tb4 (List.mem_of_getElem? (i := 11) rfl) rfl
set_option maxRecDepth 100000 in
theorem wd_4_12 : Cond.code yX7_mixCustomers cX7_mixCustomers 7 (some .long) ∈ TB := tb4 (List.mem_of_getElem? (i := 12) rfl) rfl
set_option maxRecDepth 100000 in
theorem wd_4_13 : Cond.methodLink RX7 138 yX2_value ∈ TB := tb4 (List.mem_of_getElem? (i := 13) rfl) rfl
set_option maxRecDepth 100000 in
theorem wd_4_14 : Cond.instanceMethod yX2_value ∈ TB := tb4 (List.mem_of_getElem? (i := 14) rfl) rfl
set_option maxRecDepth 100000 in
theorem wd_4_15 : Cond.selects RX2 yX2_value yX2_value ∈ TB := tb4 (List.mem_of_getElem? (i := 15) rfl) rfl
set_option maxRecDepth 100000 in
theorem wd_4_16 : Cond.code yX2_value cX2_value 2 (some .int) ∈ TB := tb4 (List.mem_of_getElem? (i := 16) rfl) rfl
set_option maxRecDepth 100000 in
theorem wd_4_17 : Cond.methodLink RX7 163 yX5_bestPlace ∈ TB := tb4 (List.mem_of_getElem? (i := 17) rfl) rfl
set_option maxRecDepth 100000 in
theorem wd_4_18 : Cond.methodLink RX7 235 yX7_mostWorn ∈ TB := tb4 (List.mem_of_getElem? (i := 18) rfl) rfl
set_option maxRecDepth 100000 in
theorem wd_4_21 : Cond.codeWith yL_begin cL_begin 4 (some .int) [(0, 9, 12, 13)] ∈ TB := tb4 (List.mem_of_getElem? (i := 21) rfl) rfl
set_option maxRecDepth 100000 in
theorem wd_4_22 : Cond.classLink RL 13 "java/lang/IllegalArgumentException" ∈ TB := tb4 (List.mem_of_getElem? (i := 22) rfl) rfl
set_option maxRecDepth 100000 in
theorem wd_4_23 : Cond.methodLink RL 7 yX7_begin ∈ TB := tb4 (List.mem_of_getElem? (i := 23) rfl) rfl
set_option maxRecDepth 100000 in
theorem wd_4_24 : Cond.instanceMethod yX7_begin ∈ TB := tb4 (List.mem_of_getElem? (i := 24) rfl) rfl
set_option maxRecDepth 100000 in
theorem wd_4_25 : Cond.selects RX7 yX7_begin yX7_begin ∈ TB := tb4 (List.mem_of_getElem? (i := 25) rfl) rfl
set_option maxRecDepth 100000 in
theorem wd_4_26 : Cond.code yX7_begin cX7_begin 2 (some .int) ∈ TB := tb4 (List.mem_of_getElem? (i := 26) rfl) rfl
set_option maxRecDepth 100000 in
theorem wd_4_27 : Cond.methodLink RX7 32 yX5_whyNotNewHead ∈ TB := tb4 (List.mem_of_getElem? (i := 27) rfl) rfl
set_option maxRecDepth 100000 in
theorem wd_4_28 : Cond.methodLink RX7 43 yX5_newHead ∈ TB := tb4 (List.mem_of_getElem? (i := 28) rfl) rfl
set_option maxRecDepth 100000 in
theorem wd_4_31 : Cond.codeWith yL_set cL_set 5 (some .int) [(0, 10, 13, 13)] ∈ TB := tb4 (List.mem_of_getElem? (i := 31) rfl) rfl
set_option maxRecDepth 100000 in
theorem wd_4_32 : Cond.methodLink RL 15 yX7_set ∈ TB := tb4 (List.mem_of_getElem? (i := 32) rfl) rfl
set_option maxRecDepth 100000 in
theorem wd_4_33 : Cond.instanceMethod yX7_set ∈ TB := tb4 (List.mem_of_getElem? (i := 33) rfl) rfl
set_option maxRecDepth 100000 in
theorem wd_4_34 : Cond.selects RX7 yX7_set yX7_set ∈ TB := tb4 (List.mem_of_getElem? (i := 34) rfl) rfl
set_option maxRecDepth 100000 in
theorem wd_4_35 : Cond.code yX7_set cX7_set 3 (some .int) ∈ TB := tb4 (List.mem_of_getElem? (i := 35) rfl) rfl
set_option maxRecDepth 100000 in
theorem wd_4_36 : Cond.methodLink RX7 46 yX5_whyNotChangeSetting ∈ TB := tb4 (List.mem_of_getElem? (i := 36) rfl) rfl
set_option maxRecDepth 100000 in
theorem wd_4_37 : Cond.methodLink RX7 50 yX5_changeSetting ∈ TB := tb4 (List.mem_of_getElem? (i := 37) rfl) rfl
set_option maxRecDepth 100000 in
theorem wd_4_40 : Cond.codeWith yL_addLabel cL_addLabel 5 (some .int) [(0, 10, 13, 13), (0, 10, 17, 22)] ∈ TB := tb4 (List.mem_of_getElem? (i := 40) rfl) rfl
set_option maxRecDepth 100000 in
theorem wd_4_41 : Cond.classLink RL 22 "java/lang/IllegalStateException" ∈ TB := tb4 (List.mem_of_getElem? (i := 41) rfl) rfl
set_option maxRecDepth 100000 in
theorem wd_4_42 : Cond.methodLink RL 19 yX7_addLabel ∈ TB := tb4 (List.mem_of_getElem? (i := 42) rfl) rfl
set_option maxRecDepth 100000 in
theorem wd_4_43 : Cond.instanceMethod yX7_addLabel ∈ TB := tb4 (List.mem_of_getElem? (i := 43) rfl) rfl
set_option maxRecDepth 100000 in
theorem wd_4_44 : Cond.selects RX7 yX7_addLabel yX7_addLabel ∈ TB := tb4 (List.mem_of_getElem? (i := 44) rfl) rfl
set_option maxRecDepth 100000 in
theorem wd_4_45 : Cond.code yX7_addLabel cX7_addLabel 3 (some .int) ∈ TB := tb4 (List.mem_of_getElem? (i := 45) rfl) rfl
set_option maxRecDepth 100000 in
theorem wd_4_46 : Cond.methodLink RX7 53 yX5_whyNotNewLabel ∈ TB := tb4 (List.mem_of_getElem? (i := 46) rfl) rfl
set_option maxRecDepth 100000 in
theorem wd_4_47 : Cond.methodLink RX7 56 yX5_newLabel ∈ TB := tb4 (List.mem_of_getElem? (i := 47) rfl) rfl
set_option maxRecDepth 100000 in
theorem wd_4_50 : Cond.codeWith yL_setRow cL_setRow 6 (some .int) [(0, 12, 15, 28), (0, 12, 19, 13)] ∈ TB := tb4 (List.mem_of_getElem? (i := 50) rfl) rfl
set_option maxRecDepth 100000 in
theorem wd_4_51 : Cond.classLink RL 28 "java/lang/IndexOutOfBoundsException" ∈ TB := tb4 (List.mem_of_getElem? (i := 51) rfl) rfl
set_option maxRecDepth 100000 in
theorem wd_4_52 : Cond.methodLink RL 24 yX7_setRow ∈ TB := tb4 (List.mem_of_getElem? (i := 52) rfl) rfl
set_option maxRecDepth 100000 in
theorem wd_4_53 : Cond.instanceMethod yX7_setRow ∈ TB := tb4 (List.mem_of_getElem? (i := 53) rfl) rfl
set_option maxRecDepth 100000 in
theorem wd_4_54 : Cond.selects RX7 yX7_setRow yX7_setRow ∈ TB := tb4 (List.mem_of_getElem? (i := 54) rfl) rfl
set_option maxRecDepth 100000 in
theorem wd_4_55 : Cond.code yX7_setRow cX7_setRow 4 (some .int) ∈ TB := tb4 (List.mem_of_getElem? (i := 55) rfl) rfl
set_option maxRecDepth 100000 in
theorem wd_4_56 : Cond.methodLink RX7 59 yX5_whyNotChangeRow ∈ TB := tb4 (List.mem_of_getElem? (i := 56) rfl) rfl
set_option maxRecDepth 100000 in
theorem wd_4_57 : Cond.methodLink RX7 63 yX5_changeRow ∈ TB := tb4 (List.mem_of_getElem? (i := 57) rfl) rfl
set_option maxRecDepth 100000 in
theorem wd_4_60 : Cond.codeWith yL_replace cL_replace 4 (some .int) [(0, 9, 12, 28)] ∈ TB := tb4 (List.mem_of_getElem? (i := 60) rfl) rfl
set_option maxRecDepth 100000 in
theorem wd_4_61 : Cond.methodLink RL 30 yX7_replace ∈ TB := tb4 (List.mem_of_getElem? (i := 61) rfl) rfl
set_option maxRecDepth 100000 in
theorem wd_4_62 : Cond.instanceMethod yX7_replace ∈ TB := tb4 (List.mem_of_getElem? (i := 62) rfl) rfl
set_option maxRecDepth 100000 in
theorem wd_4_63 : Cond.selects RX7 yX7_replace yX7_replace ∈ TB := tb4 (List.mem_of_getElem? (i := 63) rfl) rfl
set_option maxRecDepth 100000 in
theorem wd_4_64 : Cond.code yX7_replace cX7_replace 2 (some .int) ∈ TB := tb4 (List.mem_of_getElem? (i := 64) rfl) rfl
set_option maxRecDepth 100000 in
theorem wd_4_65 : Cond.methodLink RX7 66 yX5_whyNotNewDot ∈ TB := tb4 (List.mem_of_getElem? (i := 65) rfl) rfl
set_option maxRecDepth 100000 in
theorem wd_4_66 : Cond.methodLink RX7 69 yX5_newDot ∈ TB := tb4 (List.mem_of_getElem? (i := 66) rfl) rfl
set_option maxRecDepth 100000 in
theorem wd_4_69 : Cond.codeWith yL_cool cL_cool 4 (some .int) [(0, 9, 12, 13)] ∈ TB := tb4 (List.mem_of_getElem? (i := 69) rfl) rfl
set_option maxRecDepth 100000 in
theorem wd_4_70 : Cond.methodLink RL 33 yX7_cool ∈ TB := tb4 (List.mem_of_getElem? (i := 70) rfl) rfl
set_option maxRecDepth 100000 in
theorem wd_4_71 : Cond.instanceMethod yX7_cool ∈ TB := tb4 (List.mem_of_getElem? (i := 71) rfl) rfl
set_option maxRecDepth 100000 in
theorem wd_4_72 : Cond.selects RX7 yX7_cool yX7_cool ∈ TB := tb4 (List.mem_of_getElem? (i := 72) rfl) rfl
set_option maxRecDepth 100000 in
theorem wd_4_73 : Cond.code yX7_cool cX7_cool 2 (some .int) ∈ TB := tb4 (List.mem_of_getElem? (i := 73) rfl) rfl
set_option maxRecDepth 100000 in
theorem wd_4_74 : Cond.methodLink RX7 72 yX5_whyNotPassLines ∈ TB := tb4 (List.mem_of_getElem? (i := 74) rfl) rfl
set_option maxRecDepth 100000 in
theorem wd_4_75 : Cond.methodLink RX7 75 yX5_passLines ∈ TB := tb4 (List.mem_of_getElem? (i := 75) rfl) rfl
set_option maxRecDepth 100000 in
theorem wd_4_78 : Cond.codeWith yL_addCustomer cL_addCustomer 3 (some .int) [(0, 8, 11, 22)] ∈ TB := tb4 (List.mem_of_getElem? (i := 78) rfl) rfl
set_option maxRecDepth 100000 in
theorem wd_4_79 : Cond.methodLink RL 36 yX7_addCustomer ∈ TB := tb4 (List.mem_of_getElem? (i := 79) rfl) rfl
set_option maxRecDepth 100000 in
theorem wd_4_80 : Cond.instanceMethod yX7_addCustomer ∈ TB := tb4 (List.mem_of_getElem? (i := 80) rfl) rfl
set_option maxRecDepth 100000 in
theorem wd_4_81 : Cond.selects RX7 yX7_addCustomer yX7_addCustomer ∈ TB := tb4 (List.mem_of_getElem? (i := 81) rfl) rfl
set_option maxRecDepth 100000 in
theorem wd_4_82 : Cond.code yX7_addCustomer cX7_addCustomer 1 (some .int) ∈ TB := tb4 (List.mem_of_getElem? (i := 82) rfl) rfl
set_option maxRecDepth 100000 in
theorem wd_4_83 : Cond.methodLink RX7 78 yX5_whyNotNewCustomer ∈ TB := tb4 (List.mem_of_getElem? (i := 83) rfl) rfl
set_option maxRecDepth 100000 in
theorem wd_4_84 : Cond.methodLink RX7 82 yX5_newCustomer ∈ TB := tb4 (List.mem_of_getElem? (i := 84) rfl) rfl
set_option maxRecDepth 100000 in
theorem wd_4_87 : Cond.codeWith yL_rent cL_rent 6 (some .int) [(0, 12, 15, 28), (0, 12, 19, 13), (0, 12, 23, 22)] ∈ TB := tb4 (List.mem_of_getElem? (i := 87) rfl) rfl
set_option maxRecDepth 100000 in
theorem wd_4_88 : Cond.methodLink RL 40 yX7_rent ∈ TB := tb4 (List.mem_of_getElem? (i := 88) rfl) rfl
set_option maxRecDepth 100000 in
theorem wd_4_89 : Cond.instanceMethod yX7_rent ∈ TB := tb4 (List.mem_of_getElem? (i := 89) rfl) rfl
set_option maxRecDepth 100000 in
theorem wd_4_90 : Cond.selects RX7 yX7_rent yX7_rent ∈ TB := tb4 (List.mem_of_getElem? (i := 90) rfl) rfl
set_option maxRecDepth 100000 in
theorem wd_4_91 : Cond.code yX7_rent cX7_rent 4 (some .int) ∈ TB := tb4 (List.mem_of_getElem? (i := 91) rfl) rfl
set_option maxRecDepth 100000 in
theorem wd_4_92 : Cond.methodLink RX7 85 yX5_whyNotLet ∈ TB := tb4 (List.mem_of_getElem? (i := 92) rfl) rfl
set_option maxRecDepth 100000 in
theorem wd_4_93 : Cond.methodLink RX7 88 yX5_let ∈ TB := tb4 (List.mem_of_getElem? (i := 93) rfl) rfl
set_option maxRecDepth 100000 in
theorem wd_4_96 : Cond.codeWith yL_endRent cL_endRent 4 (some .int) [(0, 9, 12, 28), (0, 9, 15, 22)] ∈ TB := tb4 (List.mem_of_getElem? (i := 96) rfl) rfl
set_option maxRecDepth 100000 in
theorem wd_4_97 : Cond.methodLink RL 43 yX7_endRent ∈ TB := tb4 (List.mem_of_getElem? (i := 97) rfl) rfl
set_option maxRecDepth 100000 in
theorem wd_4_98 : Cond.instanceMethod yX7_endRent ∈ TB := tb4 (List.mem_of_getElem? (i := 98) rfl) rfl
set_option maxRecDepth 100000 in
theorem wd_4_99 : Cond.selects RX7 yX7_endRent yX7_endRent ∈ TB := tb4 (List.mem_of_getElem? (i := 99) rfl) rfl
set_option maxRecDepth 100000 in
theorem wd_4_100 : Cond.code yX7_endRent cX7_endRent 2 (some .int) ∈ TB := tb4 (List.mem_of_getElem? (i := 100) rfl) rfl
set_option maxRecDepth 100000 in
theorem wd_4_101 : Cond.methodLink RX7 91 yX5_whyNotEndLet ∈ TB := tb4 (List.mem_of_getElem? (i := 101) rfl) rfl
set_option maxRecDepth 100000 in
theorem wd_4_102 : Cond.instanceMethod yX5_whyNotEndLet ∈ TB := tb4 (List.mem_of_getElem? (i := 102) rfl) rfl
set_option maxRecDepth 100000 in
theorem wd_4_103 : Cond.selects RX5 yX5_whyNotEndLet yX5_whyNotEndLet ∈ TB := tb4 (List.mem_of_getElem? (i := 103) rfl) rfl
set_option maxRecDepth 100000 in
theorem wd_4_104 : Cond.code yX5_whyNotEndLet cX5_whyNotEndLet 2 (some .int) ∈ TB := tb4 (List.mem_of_getElem? (i := 104) rfl) rfl
set_option maxRecDepth 100000 in
theorem wd_4_105 : Cond.methodLink RX7 94 yX5_endLet ∈ TB := tb4 (List.mem_of_getElem? (i := 105) rfl) rfl
set_option maxRecDepth 100000 in
theorem wd_4_106 : Cond.instanceMethod yX5_endLet ∈ TB := tb4 (List.mem_of_getElem? (i := 106) rfl) rfl
set_option maxRecDepth 100000 in
theorem wd_4_107 : Cond.selects RX5 yX5_endLet yX5_endLet ∈ TB := tb4 (List.mem_of_getElem? (i := 107) rfl) rfl
set_option maxRecDepth 100000 in
theorem wd_4_108 : Cond.code yX5_endLet cX5_endLet 3 (some .int) ∈ TB := tb4 (List.mem_of_getElem? (i := 108) rfl) rfl
set_option maxRecDepth 100000 in
theorem wd_4_111 : Cond.codeWith yL_print cL_print 6 (some .int) [(0, 12, 15, 28), (0, 12, 19, 13), (0, 12, 23, 22)] ∈ TB := tb4 (List.mem_of_getElem? (i := 111) rfl) rfl
set_option maxRecDepth 100000 in
theorem wd_4_112 : Cond.methodLink RL 46 yX7_print ∈ TB := tb4 (List.mem_of_getElem? (i := 112) rfl) rfl
set_option maxRecDepth 100000 in
theorem wd_4_113 : Cond.instanceMethod yX7_print ∈ TB := tb4 (List.mem_of_getElem? (i := 113) rfl) rfl
set_option maxRecDepth 100000 in
theorem wd_4_114 : Cond.selects RX7 yX7_print yX7_print ∈ TB := tb4 (List.mem_of_getElem? (i := 114) rfl) rfl
set_option maxRecDepth 100000 in
theorem wd_4_115 : Cond.code yX7_print cX7_print 4 (some .int) ∈ TB := tb4 (List.mem_of_getElem? (i := 115) rfl) rfl
set_option maxRecDepth 100000 in
theorem wd_4_116 : Cond.methodLink RX7 97 yX5_whyNotPrintAt ∈ TB := tb4 (List.mem_of_getElem? (i := 116) rfl) rfl
set_option maxRecDepth 100000 in
theorem wd_4_117 : Cond.methodLink RX7 100 yX5_printAt ∈ TB := tb4 (List.mem_of_getElem? (i := 117) rfl) rfl
set_option maxRecDepth 100000 in
theorem wd_4_120 : Cond.codeWith yL_printBest cL_printBest 5 (some .int) [(0, 10, 13, 28), (0, 10, 17, 22)] ∈ TB := tb4 (List.mem_of_getElem? (i := 120) rfl) rfl
set_option maxRecDepth 100000 in
theorem wd_4_121 : Cond.methodLink RL 49 yX7_printBest ∈ TB := tb4 (List.mem_of_getElem? (i := 121) rfl) rfl
set_option maxRecDepth 100000 in
theorem wd_4_122 : Cond.instanceMethod yX7_printBest ∈ TB := tb4 (List.mem_of_getElem? (i := 122) rfl) rfl
set_option maxRecDepth 100000 in
theorem wd_4_123 : Cond.selects RX7 yX7_printBest yX7_printBest ∈ TB := tb4 (List.mem_of_getElem? (i := 123) rfl) rfl
set_option maxRecDepth 100000 in
theorem wd_4_124 : Cond.code yX7_printBest cX7_printBest 3 (some .int) ∈ TB := tb4 (List.mem_of_getElem? (i := 124) rfl) rfl
set_option maxRecDepth 100000 in
theorem wd_4_125 : Cond.methodLink RX7 103 yX5_whyNotPrintAtBest ∈ TB := tb4 (List.mem_of_getElem? (i := 125) rfl) rfl
set_option maxRecDepth 100000 in
theorem wd_4_126 : Cond.methodLink RX7 106 yX5_printAtBest ∈ TB := tb4 (List.mem_of_getElem? (i := 126) rfl) rfl
set_option maxRecDepth 100000 in
theorem wd_4_129 : Cond.codeWith yL_dot cL_dot 5 (some .int) [(0, 10, 13, 28), (0, 10, 17, 13)] ∈ TB := tb4 (List.mem_of_getElem? (i := 129) rfl) rfl
set_option maxRecDepth 100000 in
theorem wd_4_130 : Cond.methodLink RL 52 yX7_dot ∈ TB := tb4 (List.mem_of_getElem? (i := 130) rfl) rfl
set_option maxRecDepth 100000 in
theorem wd_4_131 : Cond.instanceMethod yX7_dot ∈ TB := tb4 (List.mem_of_getElem? (i := 131) rfl) rfl
set_option maxRecDepth 100000 in
theorem wd_4_132 : Cond.selects RX7 yX7_dot yX7_dot ∈ TB := tb4 (List.mem_of_getElem? (i := 132) rfl) rfl
set_option maxRecDepth 100000 in
theorem wd_4_133 : Cond.code yX7_dot cX7_dot 3 (some .int) ∈ TB := tb4 (List.mem_of_getElem? (i := 133) rfl) rfl
set_option maxRecDepth 100000 in
theorem wd_4_134 : Cond.methodLink RX7 109 yX5_whyNotDotValue ∈ TB := tb4 (List.mem_of_getElem? (i := 134) rfl) rfl
set_option maxRecDepth 100000 in
theorem wd_4_135 : Cond.instanceMethod yX5_whyNotDotValue ∈ TB := tb4 (List.mem_of_getElem? (i := 135) rfl) rfl
set_option maxRecDepth 100000 in
theorem wd_4_136 : Cond.selects RX5 yX5_whyNotDotValue yX5_whyNotDotValue ∈ TB := tb4 (List.mem_of_getElem? (i := 136) rfl) rfl
set_option maxRecDepth 100000 in
theorem wd_4_137 : Cond.code yX5_whyNotDotValue cX5_whyNotDotValue 3 (some .int) ∈ TB := tb4 (List.mem_of_getElem? (i := 137) rfl) rfl
set_option maxRecDepth 100000 in
theorem wd_4_140 : Cond.codeWith yL_label cL_label 5 (some .int) [(0, 10, 13, 28), (0, 10, 17, 13)] ∈ TB := tb4 (List.mem_of_getElem? (i := 140) rfl) rfl
set_option maxRecDepth 100000 in
theorem wd_4_141 : Cond.methodLink RL 55 yX7_label ∈ TB := tb4 (List.mem_of_getElem? (i := 141) rfl) rfl
set_option maxRecDepth 100000 in
theorem wd_4_142 : Cond.instanceMethod yX7_label ∈ TB := tb4 (List.mem_of_getElem? (i := 142) rfl) rfl
set_option maxRecDepth 100000 in
theorem wd_4_143 : Cond.selects RX7 yX7_label yX7_label ∈ TB := tb4 (List.mem_of_getElem? (i := 143) rfl) rfl
set_option maxRecDepth 100000 in
theorem wd_4_144 : Cond.code yX7_label cX7_label 3 (some .int) ∈ TB := tb4 (List.mem_of_getElem? (i := 144) rfl) rfl
set_option maxRecDepth 100000 in
theorem wd_4_145 : Cond.methodLink RX7 115 yX5_whyNotLabelValue ∈ TB := tb4 (List.mem_of_getElem? (i := 145) rfl) rfl
set_option maxRecDepth 100000 in
theorem wd_4_146 : Cond.instanceMethod yX5_whyNotLabelValue ∈ TB := tb4 (List.mem_of_getElem? (i := 146) rfl) rfl
set_option maxRecDepth 100000 in
theorem wd_4_147 : Cond.selects RX5 yX5_whyNotLabelValue yX5_whyNotLabelValue ∈ TB := tb4 (List.mem_of_getElem? (i := 147) rfl) rfl
set_option maxRecDepth 100000 in
theorem wd_4_148 : Cond.code yX5_whyNotLabelValue cX5_whyNotLabelValue 4 (some .int) ∈ TB := tb4 (List.mem_of_getElem? (i := 148) rfl) rfl
set_option maxRecDepth 100000 in
theorem wd_4_151 : Cond.codeWith yL_row cL_row 5 (some .int) [(0, 10, 13, 28), (0, 10, 17, 13)] ∈ TB := tb4 (List.mem_of_getElem? (i := 151) rfl) rfl
set_option maxRecDepth 100000 in
theorem wd_4_152 : Cond.methodLink RL 58 yX7_row ∈ TB := tb4 (List.mem_of_getElem? (i := 152) rfl) rfl
set_option maxRecDepth 100000 in
theorem wd_4_153 : Cond.instanceMethod yX7_row ∈ TB := tb4 (List.mem_of_getElem? (i := 153) rfl) rfl
set_option maxRecDepth 100000 in
theorem wd_4_154 : Cond.selects RX7 yX7_row yX7_row ∈ TB := tb4 (List.mem_of_getElem? (i := 154) rfl) rfl
set_option maxRecDepth 100000 in
theorem wd_4_155 : Cond.code yX7_row cX7_row 3 (some .int) ∈ TB := tb4 (List.mem_of_getElem? (i := 155) rfl) rfl
set_option maxRecDepth 100000 in
theorem wd_4_158 : Cond.codeWith yL_customer cL_customer 5 (some .int) [(0, 10, 13, 28), (0, 10, 17, 13)] ∈ TB := tb4 (List.mem_of_getElem? (i := 158) rfl) rfl
set_option maxRecDepth 100000 in
theorem wd_4_159 : Cond.methodLink RL 61 yX7_customer ∈ TB := tb4 (List.mem_of_getElem? (i := 159) rfl) rfl
set_option maxRecDepth 100000 in
theorem wd_4_160 : Cond.instanceMethod yX7_customer ∈ TB := tb4 (List.mem_of_getElem? (i := 160) rfl) rfl
set_option maxRecDepth 100000 in
theorem wd_4_161 : Cond.selects RX7 yX7_customer yX7_customer ∈ TB := tb4 (List.mem_of_getElem? (i := 161) rfl) rfl
set_option maxRecDepth 100000 in
theorem wd_4_162 : Cond.code yX7_customer cX7_customer 3 (some .int) ∈ TB := tb4 (List.mem_of_getElem? (i := 162) rfl) rfl
set_option maxRecDepth 100000 in
theorem wd_4_163 : Cond.methodLink RX7 131 yX5_whyNotCustomerValue ∈ TB := tb4 (List.mem_of_getElem? (i := 163) rfl) rfl
set_option maxRecDepth 100000 in
theorem wd_4_164 : Cond.instanceMethod yX5_whyNotCustomerValue ∈ TB := tb4 (List.mem_of_getElem? (i := 164) rfl) rfl
set_option maxRecDepth 100000 in
theorem wd_4_165 : Cond.selects RX5 yX5_whyNotCustomerValue yX5_whyNotCustomerValue ∈ TB := tb4 (List.mem_of_getElem? (i := 165) rfl) rfl
set_option maxRecDepth 100000 in
theorem wd_4_166 : Cond.code yX5_whyNotCustomerValue cX5_whyNotCustomerValue 3 (some .int) ∈ TB := tb4 (List.mem_of_getElem? (i := 166) rfl) rfl
set_option maxRecDepth 100000 in
theorem wd_4_169 : Cond.codeWith yL_whole cL_whole 4 (some .int) [(0, 9, 12, 13)] ∈ TB := tb4 (List.mem_of_getElem? (i := 169) rfl) rfl
set_option maxRecDepth 100000 in
theorem wd_4_170 : Cond.methodLink RL 64 yX7_whole ∈ TB := tb4 (List.mem_of_getElem? (i := 170) rfl) rfl
set_option maxRecDepth 100000 in
theorem wd_4_173 : Cond.codeWith yL_reason cL_reason 6 (some .int) [(0, 12, 15, 28), (0, 12, 19, 13)] ∈ TB := tb4 (List.mem_of_getElem? (i := 173) rfl) rfl
set_option maxRecDepth 100000 in
theorem wd_4_174 : Cond.methodLink RL 67 yX7_reason ∈ TB := tb4 (List.mem_of_getElem? (i := 174) rfl) rfl
set_option maxRecDepth 100000 in
theorem wd_4_175 : Cond.instanceMethod yX7_reason ∈ TB := tb4 (List.mem_of_getElem? (i := 175) rfl) rfl
set_option maxRecDepth 100000 in
theorem wd_4_176 : Cond.selects RX7 yX7_reason yX7_reason ∈ TB := tb4 (List.mem_of_getElem? (i := 176) rfl) rfl
set_option maxRecDepth 100000 in
theorem wd_4_177 : Cond.code yX7_reason cX7_reason 4 (some .int) ∈ TB := tb4 (List.mem_of_getElem? (i := 177) rfl) rfl
set_option maxRecDepth 100000 in
theorem wd_4_178 : Cond.methodLink RX7 148 yX5_whyNotAskAbout ∈ TB := tb4 (List.mem_of_getElem? (i := 178) rfl) rfl
set_option maxRecDepth 100000 in
theorem wd_4_179 : Cond.methodLink RX7 151 yX5_reasonAt ∈ TB := tb4 (List.mem_of_getElem? (i := 179) rfl) rfl
set_option maxRecDepth 100000 in
theorem wd_4_182 : Cond.codeWith yL_price cL_price 6 (some .int) [(0, 12, 15, 28), (0, 12, 19, 13)] ∈ TB := tb4 (List.mem_of_getElem? (i := 182) rfl) rfl
set_option maxRecDepth 100000 in
theorem wd_4_183 : Cond.methodLink RL 70 yX7_price ∈ TB := tb4 (List.mem_of_getElem? (i := 183) rfl) rfl
set_option maxRecDepth 100000 in
theorem wd_4_184 : Cond.instanceMethod yX7_price ∈ TB := tb4 (List.mem_of_getElem? (i := 184) rfl) rfl
set_option maxRecDepth 100000 in
theorem wd_4_185 : Cond.selects RX7 yX7_price yX7_price ∈ TB := tb4 (List.mem_of_getElem? (i := 185) rfl) rfl
set_option maxRecDepth 100000 in
theorem wd_4_186 : Cond.code yX7_price cX7_price 4 (some .int) ∈ TB := tb4 (List.mem_of_getElem? (i := 186) rfl) rfl
set_option maxRecDepth 100000 in
theorem wd_4_187 : Cond.methodLink RX7 154 yX5_priceAt ∈ TB := tb4 (List.mem_of_getElem? (i := 187) rfl) rfl
set_option maxRecDepth 100000 in
theorem wd_4_190 : Cond.codeWith yL_unreadable cL_unreadable 6 (some .int) [(0, 12, 15, 28), (0, 12, 19, 13)] ∈ TB := tb4 (List.mem_of_getElem? (i := 190) rfl) rfl
set_option maxRecDepth 100000 in
theorem wd_4_191 : Cond.methodLink RL 73 yX7_unreadable ∈ TB := tb4 (List.mem_of_getElem? (i := 191) rfl) rfl
set_option maxRecDepth 100000 in
theorem wd_4_192 : Cond.instanceMethod yX7_unreadable ∈ TB := tb4 (List.mem_of_getElem? (i := 192) rfl) rfl
set_option maxRecDepth 100000 in
theorem wd_4_193 : Cond.selects RX7 yX7_unreadable yX7_unreadable ∈ TB := tb4 (List.mem_of_getElem? (i := 193) rfl) rfl
set_option maxRecDepth 100000 in
theorem wd_4_194 : Cond.code yX7_unreadable cX7_unreadable 4 (some .int) ∈ TB := tb4 (List.mem_of_getElem? (i := 194) rfl) rfl
set_option maxRecDepth 100000 in
theorem wd_4_195 : Cond.methodLink RX7 157 yX5_unreadableAt ∈ TB := tb4 (List.mem_of_getElem? (i := 195) rfl) rfl
set_option maxRecDepth 100000 in
theorem wd_4_198 : Cond.codeWith yL_bestOffset cL_bestOffset 5 (some .int) [(0, 10, 13, 28)] ∈ TB := tb4 (List.mem_of_getElem? (i := 198) rfl) rfl
set_option maxRecDepth 100000 in
theorem wd_4_199 : Cond.methodLink RL 76 yX7_bestOffset ∈ TB := tb4 (List.mem_of_getElem? (i := 199) rfl) rfl
set_option maxRecDepth 100000 in
theorem wd_4_200 : Cond.instanceMethod yX7_bestOffset ∈ TB := tb4 (List.mem_of_getElem? (i := 200) rfl) rfl
set_option maxRecDepth 100000 in
theorem wd_4_201 : Cond.selects RX7 yX7_bestOffset yX7_bestOffset ∈ TB := tb4 (List.mem_of_getElem? (i := 201) rfl) rfl
set_option maxRecDepth 100000 in
theorem wd_4_202 : Cond.code yX7_bestOffset cX7_bestOffset 3 (some .int) ∈ TB := tb4 (List.mem_of_getElem? (i := 202) rfl) rfl
set_option maxRecDepth 100000 in
theorem wd_4_203 : Cond.methodLink RX7 160 yX5_whyNotPair ∈ TB := tb4 (List.mem_of_getElem? (i := 203) rfl) rfl
set_option maxRecDepth 100000 in
theorem wd_4_206 : Cond.codeWith yL_readableFor cL_readableFor 6 (some .int) [(0, 12, 15, 28), (0, 12, 19, 13)] ∈ TB := tb4 (List.mem_of_getElem? (i := 206) rfl) rfl
set_option maxRecDepth 100000 in
theorem wd_4_207 : Cond.methodLink RL 79 yX7_readableFor ∈ TB := tb4 (List.mem_of_getElem? (i := 207) rfl) rfl
set_option maxRecDepth 100000 in
theorem wd_4_208 : Cond.instanceMethod yX7_readableFor ∈ TB := tb4 (List.mem_of_getElem? (i := 208) rfl) rfl
set_option maxRecDepth 100000 in
theorem wd_4_209 : Cond.selects RX7 yX7_readableFor yX7_readableFor ∈ TB := tb4 (List.mem_of_getElem? (i := 209) rfl) rfl
set_option maxRecDepth 100000 in
theorem wd_4_210 : Cond.code yX7_readableFor cX7_readableFor 4 (some .int) ∈ TB := tb4 (List.mem_of_getElem? (i := 210) rfl) rfl
set_option maxRecDepth 100000 in
theorem wd_4_211 : Cond.methodLink RX7 166 yX5_readableAt ∈ TB := tb4 (List.mem_of_getElem? (i := 211) rfl) rfl
set_option maxRecDepth 100000 in
theorem wd_4_212 : Cond.instanceMethod yX5_readableAt ∈ TB := tb4 (List.mem_of_getElem? (i := 212) rfl) rfl
set_option maxRecDepth 100000 in
theorem wd_4_213 : Cond.selects RX5 yX5_readableAt yX5_readableAt ∈ TB := tb4 (List.mem_of_getElem? (i := 213) rfl) rfl
set_option maxRecDepth 100000 in
theorem wd_4_214 : Cond.code yX5_readableAt cX5_readableAt 4 (some .int) ∈ TB := tb4 (List.mem_of_getElem? (i := 214) rfl) rfl
set_option maxRecDepth 100000 in
theorem wd_4_217 : Cond.codeWith yL_type cL_type 4 (some .int) [(0, 9, 12, 13), (0, 9, 15, 22)] ∈ TB := tb4 (List.mem_of_getElem? (i := 217) rfl) rfl
set_option maxRecDepth 100000 in
theorem wd_4_218 : Cond.methodLink RL 82 yX7_type ∈ TB := tb4 (List.mem_of_getElem? (i := 218) rfl) rfl
set_option maxRecDepth 100000 in
theorem wd_4_219 : Cond.instanceMethod yX7_type ∈ TB := tb4 (List.mem_of_getElem? (i := 219) rfl) rfl
set_option maxRecDepth 100000 in
theorem wd_4_220 : Cond.selects RX7 yX7_type yX7_type ∈ TB := tb4 (List.mem_of_getElem? (i := 220) rfl) rfl
set_option maxRecDepth 100000 in
theorem wd_4_221 : Cond.code yX7_type cX7_type 2 (some .int) ∈ TB := tb4 (List.mem_of_getElem? (i := 221) rfl) rfl
set_option maxRecDepth 100000 in
theorem wd_4_222 : Cond.methodLink RX7 176 yX1_whyNotAppend ∈ TB := tb4 (List.mem_of_getElem? (i := 222) rfl) rfl
set_option maxRecDepth 100000 in
theorem wd_4_223 : Cond.instanceMethod yX1_whyNotAppend ∈ TB := tb4 (List.mem_of_getElem? (i := 223) rfl) rfl
set_option maxRecDepth 100000 in
theorem wd_4_224 : Cond.selects RX1 yX1_whyNotAppend yX1_whyNotAppend ∈ TB := tb4 (List.mem_of_getElem? (i := 224) rfl) rfl
set_option maxRecDepth 100000 in
theorem wd_4_225 : Cond.code yX1_whyNotAppend cX1_whyNotAppend 2 (some .int) ∈ TB := tb4 (List.mem_of_getElem? (i := 225) rfl) rfl
set_option maxRecDepth 100000 in
theorem wd_4_226 : Cond.methodLink RX7 179 yX1_append ∈ TB := tb4 (List.mem_of_getElem? (i := 226) rfl) rfl
set_option maxRecDepth 100000 in
theorem wd_4_227 : Cond.instanceMethod yX1_append ∈ TB := tb4 (List.mem_of_getElem? (i := 227) rfl) rfl
set_option maxRecDepth 100000 in
theorem wd_4_228 : Cond.selects RX1 yX1_append yX1_append ∈ TB := tb4 (List.mem_of_getElem? (i := 228) rfl) rfl
set_option maxRecDepth 100000 in
theorem wd_4_229 : Cond.code yX1_append cX1_append 2 (some .int) ∈ TB := tb4 (List.mem_of_getElem? (i := 229) rfl) rfl
set_option maxRecDepth 100000 in
theorem wd_4_232 : Cond.codeWith yL_undo cL_undo 3 (some .int) [(0, 8, 11, 22)] ∈ TB := tb4 (List.mem_of_getElem? (i := 232) rfl) rfl
set_option maxRecDepth 100000 in
theorem wd_4_233 : Cond.methodLink RL 85 yX7_undo ∈ TB := tb4 (List.mem_of_getElem? (i := 233) rfl) rfl
set_option maxRecDepth 100000 in
theorem wd_4_234 : Cond.instanceMethod yX7_undo ∈ TB := tb4 (List.mem_of_getElem? (i := 234) rfl) rfl
set_option maxRecDepth 100000 in
theorem wd_4_235 : Cond.selects RX7 yX7_undo yX7_undo ∈ TB := tb4 (List.mem_of_getElem? (i := 235) rfl) rfl
set_option maxRecDepth 100000 in
theorem wd_4_236 : Cond.code yX7_undo cX7_undo 1 (some .int) ∈ TB := tb4 (List.mem_of_getElem? (i := 236) rfl) rfl
set_option maxRecDepth 100000 in
theorem wd_5_2 : Cond.methodLink RX8 1 Lib.objectInit ∈ TB := tb5 (List.mem_of_getElem? (i := 2) rfl) rfl
set_option maxRecDepth 100000 in
theorem wd_5_3 : Cond.fieldLink RX8 7 RX8 "s" "[I" ∈ TB := tb5 (List.mem_of_getElem? (i := 3) rfl) rfl
set_option maxRecDepth 100000 in
theorem wd_5_4 : Cond.fieldLink RX8 13 RX8 "w" "[I" ∈ TB := tb5 (List.mem_of_getElem? (i := 4) rfl) rfl
set_option maxRecDepth 100000 in
theorem wd_5_5 : Cond.fieldLink RX8 16 RX8 "past" "[I" ∈ TB := tb5 (List.mem_of_getElem? (i := 5) rfl) rfl
set_option maxRecDepth 100000 in
theorem wd_5_6 : Cond.fieldLink RX8 33 RX8 "pasts" "I" ∈ TB := tb5 (List.mem_of_getElem? (i := 6) rfl) rfl
set_option maxRecDepth 100000 in
theorem wd_5_7 : Cond.fieldLink RX8 29 RX8 "runs" "Z" ∈ TB := tb5 (List.mem_of_getElem? (i := 7) rfl) rfl
set_option maxRecDepth 100000 in
theorem wd_5_8 : Cond.fieldLink RX8 19 RX8 "text" "[I" ∈ TB := tb5 (List.mem_of_getElem? (i := 8) rfl) rfl
set_option maxRecDepth 100000 in
theorem wd_5_9 : Cond.fieldLink RX8 146 RX8 "typed" "I" ∈ TB := tb5 (List.mem_of_getElem? (i := 9) rfl) rfl
set_option maxRecDepth 100000 in
theorem wd_5_10 : Cond.fieldLink RX8 25 RX8 "refused" "I" ∈ TB := tb5 (List.mem_of_getElem? (i := 10) rfl) rfl
set_option maxRecDepth 100000 in
theorem wd_5_11 : Cond.fieldLink RX8 155 RX8 "spot" "I" ∈ TB := tb5 (List.mem_of_getElem? (i := 11) rfl) rfl
set_option maxRecDepth 100000 in
theorem wd_5_12 : Cond.fieldLink RX8 181 RX8 "command" "I" ∈ TB := tb5 (List.mem_of_getElem? (i := 12) rfl) rfl
set_option maxRecDepth 100000 in
theorem wd_5_13 : Cond.fieldLink RX8 22 RX8 "read" "[I" ∈ TB := tb5 (List.mem_of_getElem? (i := 13) rfl) rfl
set_option maxRecDepth 100000 in
theorem wd_5_42 : Cond.instanceMethod yX8_begin ∈ TB := tb5 (List.mem_of_getElem? (i := 42) rfl) rfl
set_option maxRecDepth 100000 in
theorem wd_5_43 : Cond.selects RX8 yX8_begin yX8_begin ∈ TB := tb5 (List.mem_of_getElem? (i := 43) rfl) rfl
set_option maxRecDepth 100000 in
theorem wd_5_44 : Cond.code yX8_begin cX8_begin 4 (some .int) ∈ TB := tb5 (List.mem_of_getElem? (i := 44) rfl) rfl
set_option maxRecDepth 100000 in
theorem wd_5_45 : Cond.methodLink RX8 36 yX8_in ∈ TB := tb5 (List.mem_of_getElem? (i := 45) rfl) rfl
set_option maxRecDepth 100000 in
theorem wd_5_46 : Cond.static yX8_in ∈ TB := tb5 (List.mem_of_getElem? (i := 46) rfl) rfl
set_option maxRecDepth 100000 in
theorem wd_5_47 : Cond.code yX8_in cX8_in 3 (some .boolean) ∈ TB := tb5 (List.mem_of_getElem? (i := 47) rfl) rfl
set_option maxRecDepth 100000 in
theorem wd_5_48 : Cond.methodLink RX8 44 yX8_throwsAt ∈ TB := tb5 (List.mem_of_getElem? (i := 48) rfl) rfl
set_option maxRecDepth 100000 in
theorem wd_5_50 : Cond.instanceMethod yX8_throwsAt ∈ TB := tb5 (List.mem_of_getElem? (i := 50) rfl) rfl
set_option maxRecDepth 100000 in
theorem wd_5_51 : Cond.code yX8_throwsAt cX8_throwsAt 2 (some .boolean) ∈ TB := tb5 (List.mem_of_getElem? (i := 51) rfl) rfl
set_option maxRecDepth 100000 in
theorem wd_5_52 : Cond.methodLink RX8 48 yX8_saves ∈ TB := tb5 (List.mem_of_getElem? (i := 52) rfl) rfl
set_option maxRecDepth 100000 in
theorem wd_5_54 : Cond.instanceMethod yX8_saves ∈ TB := tb5 (List.mem_of_getElem? (i := 54) rfl) rfl
set_option maxRecDepth 100000 in
theorem wd_5_55 : Cond.code yX8_saves cX8_saves 2 none ∈ TB := tb5 (List.mem_of_getElem? (i := 55) rfl) rfl
set_option maxRecDepth 100000 in
theorem wd_5_56 : Cond.methodLink RX8 51 yX8_sumOf ∈ TB := tb5 (List.mem_of_getElem? (i := 56) rfl) rfl
set_option maxRecDepth 100000 in
theorem wd_5_58 : Cond.instanceMethod yX8_sumOf ∈ TB := tb5 (List.mem_of_getElem? (i := 58) rfl) rfl
set_option maxRecDepth 100000 in
theorem wd_5_59 : Cond.code yX8_sumOf cX8_sumOf 4 (some .int) ∈ TB := tb5 (List.mem_of_getElem? (i := 59) rfl) rfl
set_option maxRecDepth 100000 in
theorem wd_5_60 : Cond.methodLink RX8 40 yX8_dotOf ∈ TB := tb5 (List.mem_of_getElem? (i := 60) rfl) rfl
set_option maxRecDepth 100000 in
theorem wd_5_61 : Cond.static yX8_dotOf ∈ TB := tb5 (List.mem_of_getElem? (i := 61) rfl) rfl
set_option maxRecDepth 100000 in
theorem wd_5_62 : Cond.code yX8_dotOf cX8_dotOf 3 (some .int) ∈ TB := tb5 (List.mem_of_getElem? (i := 62) rfl) rfl
set_option maxRecDepth 100000 in
theorem wd_5_63 : Cond.methodLink RX8 55 yX8_frees ∈ TB := tb5 (List.mem_of_getElem? (i := 63) rfl) rfl
set_option maxRecDepth 100000 in
theorem wd_5_65 : Cond.instanceMethod yX8_frees ∈ TB := tb5 (List.mem_of_getElem? (i := 65) rfl) rfl
set_option maxRecDepth 100000 in
theorem wd_5_66 : Cond.code yX8_frees cX8_frees 2 none ∈ TB := tb5 (List.mem_of_getElem? (i := 66) rfl) rfl
set_option maxRecDepth 100000 in
theorem wd_5_68 : Cond.instanceMethod yX8_set ∈ TB := tb5 (List.mem_of_getElem? (i := 68) rfl) rfl
set_option maxRecDepth 100000 in
theorem wd_5_69 : Cond.selects RX8 yX8_set yX8_set ∈ TB := tb5 (List.mem_of_getElem? (i := 69) rfl) rfl
set_option maxRecDepth 100000 in
theorem wd_5_70 : Cond.code yX8_set cX8_set 4 (some .int) ∈ TB := tb5 (List.mem_of_getElem? (i := 70) rfl) rfl
set_option maxRecDepth 100000 in
theorem wd_5_71 : Cond.methodLink RX8 59 yX8_least ∈ TB := tb5 (List.mem_of_getElem? (i := 71) rfl) rfl
set_option maxRecDepth 100000 in
theorem wd_5_72 : Cond.static yX8_least ∈ TB := tb5 (List.mem_of_getElem? (i := 72) rfl) rfl
set_option maxRecDepth 100000 in
theorem wd_5_73 : Cond.code yX8_least cX8_least 1 (some .int) ∈ TB := tb5 (List.mem_of_getElem? (i := 73) rfl) rfl
set_option maxRecDepth 100000 in
theorem wd_5_74 : Cond.methodLink RX8 62 yX8_most ∈ TB := tb5 (List.mem_of_getElem? (i := 74) rfl) rfl
set_option maxRecDepth 100000 in
theorem wd_5_75 : Cond.static yX8_most ∈ TB := tb5 (List.mem_of_getElem? (i := 75) rfl) rfl
set_option maxRecDepth 100000 in
theorem wd_5_76 : Cond.code yX8_most cX8_most 1 (some .int) ∈ TB := tb5 (List.mem_of_getElem? (i := 76) rfl) rfl
set_option maxRecDepth 100000 in
theorem wd_5_78 : Cond.instanceMethod yX8_addLabel ∈ TB := tb5 (List.mem_of_getElem? (i := 78) rfl) rfl
set_option maxRecDepth 100000 in
theorem wd_5_79 : Cond.selects RX8 yX8_addLabel yX8_addLabel ∈ TB := tb5 (List.mem_of_getElem? (i := 79) rfl) rfl
set_option maxRecDepth 100000 in
theorem wd_5_80 : Cond.code yX8_addLabel cX8_addLabel 5 (some .int) ∈ TB := tb5 (List.mem_of_getElem? (i := 80) rfl) rfl
set_option maxRecDepth 100000 in
theorem wd_5_82 : Cond.instanceMethod yX8_setRow ∈ TB := tb5 (List.mem_of_getElem? (i := 82) rfl) rfl
set_option maxRecDepth 100000 in
theorem wd_5_83 : Cond.selects RX8 yX8_setRow yX8_setRow ∈ TB := tb5 (List.mem_of_getElem? (i := 83) rfl) rfl
set_option maxRecDepth 100000 in
theorem wd_5_84 : Cond.code yX8_setRow cX8_setRow 5 (some .int) ∈ TB := tb5 (List.mem_of_getElem? (i := 84) rfl) rfl
set_option maxRecDepth 100000 in
theorem wd_5_85 : Cond.methodLink RX8 65 yX8_isLabel ∈ TB := tb5 (List.mem_of_getElem? (i := 85) rfl) rfl
set_option maxRecDepth 100000 in
theorem wd_5_87 : Cond.instanceMethod yX8_isLabel ∈ TB := tb5 (List.mem_of_getElem? (i := 87) rfl) rfl
set_option maxRecDepth 100000 in
theorem wd_5_88 : Cond.code yX8_isLabel cX8_isLabel 2 (some .boolean) ∈ TB := tb5 (List.mem_of_getElem? (i := 88) rfl) rfl
set_option maxRecDepth 100000 in
theorem wd_5_89 : Cond.methodLink RX8 68 yX8_labelOf ∈ TB := tb5 (List.mem_of_getElem? (i := 89) rfl) rfl
set_option maxRecDepth 100000 in
theorem wd_5_91 : Cond.instanceMethod yX8_labelOf ∈ TB := tb5 (List.mem_of_getElem? (i := 91) rfl) rfl
set_option maxRecDepth 100000 in
theorem wd_5_92 : Cond.code yX8_labelOf cX8_labelOf 3 (some .int) ∈ TB := tb5 (List.mem_of_getElem? (i := 92) rfl) rfl
set_option maxRecDepth 100000 in
theorem wd_5_94 : Cond.instanceMethod yX8_replace ∈ TB := tb5 (List.mem_of_getElem? (i := 94) rfl) rfl
set_option maxRecDepth 100000 in
theorem wd_5_95 : Cond.selects RX8 yX8_replace yX8_replace ∈ TB := tb5 (List.mem_of_getElem? (i := 95) rfl) rfl
set_option maxRecDepth 100000 in
theorem wd_5_96 : Cond.code yX8_replace cX8_replace 4 (some .int) ∈ TB := tb5 (List.mem_of_getElem? (i := 96) rfl) rfl
set_option maxRecDepth 100000 in
theorem wd_5_97 : Cond.methodLink RX8 72 yX8_isDot ∈ TB := tb5 (List.mem_of_getElem? (i := 97) rfl) rfl
set_option maxRecDepth 100000 in
theorem wd_5_99 : Cond.instanceMethod yX8_isDot ∈ TB := tb5 (List.mem_of_getElem? (i := 99) rfl) rfl
set_option maxRecDepth 100000 in
theorem wd_5_100 : Cond.code yX8_isDot cX8_isDot 2 (some .boolean) ∈ TB := tb5 (List.mem_of_getElem? (i := 100) rfl) rfl
set_option maxRecDepth 100000 in
theorem wd_5_102 : Cond.instanceMethod yX8_cool ∈ TB := tb5 (List.mem_of_getElem? (i := 102) rfl) rfl
set_option maxRecDepth 100000 in
theorem wd_5_103 : Cond.selects RX8 yX8_cool yX8_cool ∈ TB := tb5 (List.mem_of_getElem? (i := 103) rfl) rfl
set_option maxRecDepth 100000 in
theorem wd_5_104 : Cond.code yX8_cool cX8_cool 3 (some .int) ∈ TB := tb5 (List.mem_of_getElem? (i := 104) rfl) rfl
set_option maxRecDepth 100000 in
theorem wd_5_105 : Cond.methodLink RX8 75 yX8_cools ∈ TB := tb5 (List.mem_of_getElem? (i := 105) rfl) rfl
set_option maxRecDepth 100000 in
theorem wd_5_106 : Cond.static yX8_cools ∈ TB := tb5 (List.mem_of_getElem? (i := 106) rfl) rfl
set_option maxRecDepth 100000 in
theorem wd_5_107 : Cond.code yX8_cools cX8_cools 3 none ∈ TB := tb5 (List.mem_of_getElem? (i := 107) rfl) rfl
set_option maxRecDepth 100000 in
theorem wd_5_109 : Cond.instanceMethod yX8_addCustomer ∈ TB := tb5 (List.mem_of_getElem? (i := 109) rfl) rfl
set_option maxRecDepth 100000 in
theorem wd_5_110 : Cond.selects RX8 yX8_addCustomer yX8_addCustomer ∈ TB := tb5 (List.mem_of_getElem? (i := 110) rfl) rfl
set_option maxRecDepth 100000 in
theorem wd_5_111 : Cond.code yX8_addCustomer cX8_addCustomer 3 (some .int) ∈ TB := tb5 (List.mem_of_getElem? (i := 111) rfl) rfl
set_option maxRecDepth 100000 in
theorem wd_5_113 : Cond.instanceMethod yX8_rent ∈ TB := tb5 (List.mem_of_getElem? (i := 113) rfl) rfl
set_option maxRecDepth 100000 in
theorem wd_5_114 : Cond.selects RX8 yX8_rent yX8_rent ∈ TB := tb5 (List.mem_of_getElem? (i := 114) rfl) rfl
set_option maxRecDepth 100000 in
theorem wd_5_115 : Cond.code yX8_rent cX8_rent 4 (some .int) ∈ TB := tb5 (List.mem_of_getElem? (i := 115) rfl) rfl
set_option maxRecDepth 100000 in
theorem wd_5_116 : Cond.methodLink RX8 85 yX8_isCustomer ∈ TB := tb5 (List.mem_of_getElem? (i := 116) rfl) rfl
set_option maxRecDepth 100000 in
theorem wd_5_118 : Cond.instanceMethod yX8_isCustomer ∈ TB := tb5 (List.mem_of_getElem? (i := 118) rfl) rfl
set_option maxRecDepth 100000 in
theorem wd_5_119 : Cond.code yX8_isCustomer cX8_isCustomer 2 (some .boolean) ∈ TB := tb5 (List.mem_of_getElem? (i := 119) rfl) rfl
set_option maxRecDepth 100000 in
theorem wd_5_120 : Cond.methodLink RX8 88 yX8_isTaken ∈ TB := tb5 (List.mem_of_getElem? (i := 120) rfl) rfl
set_option maxRecDepth 100000 in
theorem wd_5_122 : Cond.instanceMethod yX8_isTaken ∈ TB := tb5 (List.mem_of_getElem? (i := 122) rfl) rfl
set_option maxRecDepth 100000 in
theorem wd_5_123 : Cond.code yX8_isTaken cX8_isTaken 6 (some .boolean) ∈ TB := tb5 (List.mem_of_getElem? (i := 123) rfl) rfl
set_option maxRecDepth 100000 in
theorem wd_5_124 : Cond.methodLink RX8 82 yX8_renter ∈ TB := tb5 (List.mem_of_getElem? (i := 124) rfl) rfl
set_option maxRecDepth 100000 in
theorem wd_5_126 : Cond.instanceMethod yX8_renter ∈ TB := tb5 (List.mem_of_getElem? (i := 126) rfl) rfl
set_option maxRecDepth 100000 in
theorem wd_5_127 : Cond.code yX8_renter cX8_renter 4 (some .int) ∈ TB := tb5 (List.mem_of_getElem? (i := 127) rfl) rfl
set_option maxRecDepth 100000 in
theorem wd_5_128 : Cond.methodLink RX8 79 yX8_customerOf ∈ TB := tb5 (List.mem_of_getElem? (i := 128) rfl) rfl
set_option maxRecDepth 100000 in
theorem wd_5_130 : Cond.instanceMethod yX8_customerOf ∈ TB := tb5 (List.mem_of_getElem? (i := 130) rfl) rfl
set_option maxRecDepth 100000 in
theorem wd_5_131 : Cond.code yX8_customerOf cX8_customerOf 3 (some .int) ∈ TB := tb5 (List.mem_of_getElem? (i := 131) rfl) rfl
set_option maxRecDepth 100000 in
theorem wd_5_132 : Cond.methodLink RX8 91 yX8_rented ∈ TB := tb5 (List.mem_of_getElem? (i := 132) rfl) rfl
set_option maxRecDepth 100000 in
theorem wd_5_134 : Cond.instanceMethod yX8_rented ∈ TB := tb5 (List.mem_of_getElem? (i := 134) rfl) rfl
set_option maxRecDepth 100000 in
theorem wd_5_135 : Cond.code yX8_rented cX8_rented 3 (some .int) ∈ TB := tb5 (List.mem_of_getElem? (i := 135) rfl) rfl
set_option maxRecDepth 100000 in
theorem wd_5_141 : Cond.instanceMethod yX8_print ∈ TB := tb5 (List.mem_of_getElem? (i := 141) rfl) rfl
set_option maxRecDepth 100000 in
theorem wd_5_142 : Cond.selects RX8 yX8_print yX8_print ∈ TB := tb5 (List.mem_of_getElem? (i := 142) rfl) rfl
set_option maxRecDepth 100000 in
theorem wd_5_143 : Cond.code yX8_print cX8_print 5 (some .int) ∈ TB := tb5 (List.mem_of_getElem? (i := 143) rfl) rfl
set_option maxRecDepth 100000 in
theorem wd_5_144 : Cond.methodLink RX8 125 yX8_wrong ∈ TB := tb5 (List.mem_of_getElem? (i := 144) rfl) rfl
set_option maxRecDepth 100000 in
theorem wd_5_146 : Cond.instanceMethod yX8_wrong ∈ TB := tb5 (List.mem_of_getElem? (i := 146) rfl) rfl
set_option maxRecDepth 100000 in
theorem wd_5_147 : Cond.code yX8_wrong cX8_wrong 4 (some .int) ∈ TB := tb5 (List.mem_of_getElem? (i := 147) rfl) rfl
set_option maxRecDepth 100000 in
theorem wd_5_148 : Cond.methodLink RX8 115 yX8_whyNot ∈ TB := tb5 (List.mem_of_getElem? (i := 148) rfl) rfl
set_option maxRecDepth 100000 in
theorem wd_5_150 : Cond.instanceMethod yX8_whyNot ∈ TB := tb5 (List.mem_of_getElem? (i := 150) rfl) rfl
set_option maxRecDepth 100000 in
theorem wd_5_151 : Cond.code yX8_whyNot cX8_whyNot 5 (some .int) ∈ TB := tb5 (List.mem_of_getElem? (i := 151) rfl) rfl
set_option maxRecDepth 100000 in
theorem wd_5_152 : Cond.methodLink RX8 98 yX8_blacks ∈ TB := tb5 (List.mem_of_getElem? (i := 152) rfl) rfl
set_option maxRecDepth 100000 in
theorem wd_5_154 : Cond.instanceMethod yX8_blacks ∈ TB := tb5 (List.mem_of_getElem? (i := 154) rfl) rfl
set_option maxRecDepth 100000 in
theorem wd_5_155 : Cond.code yX8_blacks cX8_blacks 4 (some .int) ∈ TB := tb5 (List.mem_of_getElem? (i := 155) rfl) rfl
set_option maxRecDepth 100000 in
theorem wd_5_156 : Cond.methodLink RX8 95 yX8_ones ∈ TB := tb5 (List.mem_of_getElem? (i := 156) rfl) rfl
set_option maxRecDepth 100000 in
theorem wd_5_157 : Cond.static yX8_ones ∈ TB := tb5 (List.mem_of_getElem? (i := 157) rfl) rfl
set_option maxRecDepth 100000 in
theorem wd_5_158 : Cond.code yX8_ones cX8_ones 3 (some .int) ∈ TB := tb5 (List.mem_of_getElem? (i := 158) rfl) rfl
set_option maxRecDepth 100000 in
theorem wd_5_159 : Cond.methodLink RX8 128 yX8_prints ∈ TB := tb5 (List.mem_of_getElem? (i := 159) rfl) rfl
set_option maxRecDepth 100000 in
theorem wd_5_161 : Cond.instanceMethod yX8_prints ∈ TB := tb5 (List.mem_of_getElem? (i := 161) rfl) rfl
set_option maxRecDepth 100000 in
theorem wd_5_162 : Cond.code yX8_prints cX8_prints 8 (some .int) ∈ TB := tb5 (List.mem_of_getElem? (i := 162) rfl) rfl
set_option maxRecDepth 100000 in
theorem wd_5_163 : Cond.methodLink RX8 122 yX8_priceOf ∈ TB := tb5 (List.mem_of_getElem? (i := 163) rfl) rfl
set_option maxRecDepth 100000 in
theorem wd_5_165 : Cond.instanceMethod yX8_priceOf ∈ TB := tb5 (List.mem_of_getElem? (i := 165) rfl) rfl
set_option maxRecDepth 100000 in
theorem wd_5_166 : Cond.code yX8_priceOf cX8_priceOf 8 (some .int) ∈ TB := tb5 (List.mem_of_getElem? (i := 166) rfl) rfl
set_option maxRecDepth 100000 in
theorem wd_5_167 : Cond.methodLink RX8 112 yX8_plays ∈ TB := tb5 (List.mem_of_getElem? (i := 167) rfl) rfl
set_option maxRecDepth 100000 in
theorem wd_5_169 : Cond.instanceMethod yX8_plays ∈ TB := tb5 (List.mem_of_getElem? (i := 169) rfl) rfl
set_option maxRecDepth 100000 in
theorem wd_5_170 : Cond.code yX8_plays cX8_plays 7 (some .int) ∈ TB := tb5 (List.mem_of_getElem? (i := 170) rfl) rfl
set_option maxRecDepth 100000 in
theorem wd_5_171 : Cond.methodLink RX8 101 yX8_fade ∈ TB := tb5 (List.mem_of_getElem? (i := 171) rfl) rfl
set_option maxRecDepth 100000 in
theorem wd_5_172 : Cond.static yX8_fade ∈ TB := tb5 (List.mem_of_getElem? (i := 172) rfl) rfl
set_option maxRecDepth 100000 in
theorem wd_5_173 : Cond.code yX8_fade cX8_fade 3 (some .int) ∈ TB := tb5 (List.mem_of_getElem? (i := 173) rfl) rfl
set_option maxRecDepth 100000 in
theorem wd_5_174 : Cond.methodLink RX8 105 yX8_burns ∈ TB := tb5 (List.mem_of_getElem? (i := 174) rfl) rfl
set_option maxRecDepth 100000 in
theorem wd_5_175 : Cond.static yX8_burns ∈ TB := tb5 (List.mem_of_getElem? (i := 175) rfl) rfl
set_option maxRecDepth 100000 in
theorem wd_5_176 : Cond.code yX8_burns cX8_burns 7 none ∈ TB := tb5 (List.mem_of_getElem? (i := 176) rfl) rfl
set_option maxRecDepth 100000 in
theorem wd_5_178 : Cond.instanceMethod yX8_printBest ∈ TB := tb5 (List.mem_of_getElem? (i := 178) rfl) rfl
set_option maxRecDepth 100000 in
theorem wd_5_179 : Cond.selects RX8 yX8_printBest yX8_printBest ∈ TB := tb5 (List.mem_of_getElem? (i := 179) rfl) rfl
set_option maxRecDepth 100000 in
theorem wd_5_180 : Cond.code yX8_printBest cX8_printBest 6 (some .int) ∈ TB := tb5 (List.mem_of_getElem? (i := 180) rfl) rfl
set_option maxRecDepth 100000 in
theorem wd_5_181 : Cond.methodLink RX8 131 yX8_best ∈ TB := tb5 (List.mem_of_getElem? (i := 181) rfl) rfl
set_option maxRecDepth 100000 in
theorem wd_5_183 : Cond.instanceMethod yX8_best ∈ TB := tb5 (List.mem_of_getElem? (i := 183) rfl) rfl
set_option maxRecDepth 100000 in
theorem wd_5_184 : Cond.code yX8_best cX8_best 10 (some .int) ∈ TB := tb5 (List.mem_of_getElem? (i := 184) rfl) rfl
set_option maxRecDepth 100000 in
theorem wd_5_185 : Cond.methodLink RX8 119 yX8_badOf ∈ TB := tb5 (List.mem_of_getElem? (i := 185) rfl) rfl
set_option maxRecDepth 100000 in
theorem wd_5_187 : Cond.instanceMethod yX8_badOf ∈ TB := tb5 (List.mem_of_getElem? (i := 187) rfl) rfl
set_option maxRecDepth 100000 in
theorem wd_5_188 : Cond.code yX8_badOf cX8_badOf 3 (some .int) ∈ TB := tb5 (List.mem_of_getElem? (i := 188) rfl) rfl
set_option maxRecDepth 100000 in
theorem wd_5_189 : Cond.methodLink RX8 109 yX8_copies ∈ TB := tb5 (List.mem_of_getElem? (i := 189) rfl) rfl
set_option maxRecDepth 100000 in
theorem wd_5_191 : Cond.instanceMethod yX8_copies ∈ TB := tb5 (List.mem_of_getElem? (i := 191) rfl) rfl
set_option maxRecDepth 100000 in
theorem wd_5_192 : Cond.code yX8_copies cX8_copies 2 none ∈ TB := tb5 (List.mem_of_getElem? (i := 192) rfl) rfl
set_option maxRecDepth 100000 in
theorem wd_5_197 : Cond.methodLink RX8 134 yX8_valueOf ∈ TB := tb5 (List.mem_of_getElem? (i := 197) rfl) rfl
set_option maxRecDepth 100000 in
theorem wd_5_199 : Cond.instanceMethod yX8_valueOf ∈ TB := tb5 (List.mem_of_getElem? (i := 199) rfl) rfl
set_option maxRecDepth 100000 in
theorem wd_5_200 : Cond.code yX8_valueOf cX8_valueOf 3 (some .int) ∈ TB := tb5 (List.mem_of_getElem? (i := 200) rfl) rfl
set_option maxRecDepth 100000 in
theorem wd_5_205 : Cond.methodLink RX8 140 yX8_ofLabel ∈ TB := tb5 (List.mem_of_getElem? (i := 205) rfl) rfl
set_option maxRecDepth 100000 in
theorem wd_5_207 : Cond.instanceMethod yX8_ofLabel ∈ TB := tb5 (List.mem_of_getElem? (i := 207) rfl) rfl
set_option maxRecDepth 100000 in
theorem wd_5_208 : Cond.code yX8_ofLabel cX8_ofLabel 3 (some .int) ∈ TB := tb5 (List.mem_of_getElem? (i := 208) rfl) rfl
set_option maxRecDepth 100000 in
theorem wd_5_209 : Cond.methodLink RX8 137 yX8_empties ∈ TB := tb5 (List.mem_of_getElem? (i := 209) rfl) rfl
set_option maxRecDepth 100000 in
theorem wd_5_211 : Cond.instanceMethod yX8_empties ∈ TB := tb5 (List.mem_of_getElem? (i := 211) rfl) rfl
set_option maxRecDepth 100000 in
theorem wd_5_212 : Cond.code yX8_empties cX8_empties 4 (some .int) ∈ TB := tb5 (List.mem_of_getElem? (i := 212) rfl) rfl
set_option maxRecDepth 100000 in
theorem wd_5_225 : Cond.methodLink RX8 149 yX8_wholeOf ∈ TB := tb5 (List.mem_of_getElem? (i := 225) rfl) rfl
set_option maxRecDepth 100000 in
theorem wd_5_227 : Cond.instanceMethod yX8_wholeOf ∈ TB := tb5 (List.mem_of_getElem? (i := 227) rfl) rfl
set_option maxRecDepth 100000 in
theorem wd_5_228 : Cond.code yX8_wholeOf cX8_wholeOf 2 (some .int) ∈ TB := tb5 (List.mem_of_getElem? (i := 228) rfl) rfl
set_option maxRecDepth 100000 in
theorem wd_5_229 : Cond.methodLink RX8 143 yX8_earned ∈ TB := tb5 (List.mem_of_getElem? (i := 229) rfl) rfl
set_option maxRecDepth 100000 in
theorem wd_5_231 : Cond.instanceMethod yX8_earned ∈ TB := tb5 (List.mem_of_getElem? (i := 231) rfl) rfl
set_option maxRecDepth 100000 in
theorem wd_5_232 : Cond.code yX8_earned cX8_earned 3 (some .int) ∈ TB := tb5 (List.mem_of_getElem? (i := 232) rfl) rfl
set_option maxRecDepth 100000 in
theorem wd_6_17 : Cond.methodLink RX8 152 yX8_worn ∈ TB := tb6 (List.mem_of_getElem? (i := 17) rfl) rfl
set_option maxRecDepth 100000 in
theorem wd_6_19 : Cond.instanceMethod yX8_worn ∈ TB := tb6 (List.mem_of_getElem? (i := 19) rfl) rfl
set_option maxRecDepth 100000 in
theorem wd_6_20 : Cond.code yX8_worn cX8_worn 3 (some .int) ∈ TB := tb6 (List.mem_of_getElem? (i := 20) rfl) rfl
set_option maxRecDepth 100000 in
theorem wd_6_33 : Cond.methodLink RX8 224 yX8_fault ∈ TB := tb6 (List.mem_of_getElem? (i := 33) rfl) rfl
set_option maxRecDepth 100000 in
theorem wd_6_35 : Cond.instanceMethod yX8_fault ∈ TB := tb6 (List.mem_of_getElem? (i := 35) rfl) rfl
set_option maxRecDepth 100000 in
theorem wd_6_36 : Cond.code yX8_fault cX8_fault 2 (some .int) ∈ TB := tb6 (List.mem_of_getElem? (i := 36) rfl) rfl
set_option maxRecDepth 100000 in
theorem wd_6_37 : Cond.methodLink RX8 170 yX8_skips ∈ TB := tb6 (List.mem_of_getElem? (i := 37) rfl) rfl
set_option maxRecDepth 100000 in
theorem wd_6_39 : Cond.instanceMethod yX8_skips ∈ TB := tb6 (List.mem_of_getElem? (i := 39) rfl) rfl
set_option maxRecDepth 100000 in
theorem wd_6_40 : Cond.code yX8_skips cX8_skips 1 none ∈ TB := tb6 (List.mem_of_getElem? (i := 40) rfl) rfl
set_option maxRecDepth 100000 in
theorem wd_6_41 : Cond.methodLink RX8 158 yX8_isAt ∈ TB := tb6 (List.mem_of_getElem? (i := 41) rfl) rfl
set_option maxRecDepth 100000 in
theorem wd_6_43 : Cond.instanceMethod yX8_isAt ∈ TB := tb6 (List.mem_of_getElem? (i := 43) rfl) rfl
set_option maxRecDepth 100000 in
theorem wd_6_44 : Cond.code yX8_isAt cX8_isAt 3 (some .boolean) ∈ TB := tb6 (List.mem_of_getElem? (i := 44) rfl) rfl
set_option maxRecDepth 100000 in
theorem wd_6_45 : Cond.methodLink RX8 190 yX8_reads ∈ TB := tb6 (List.mem_of_getElem? (i := 45) rfl) rfl
set_option maxRecDepth 100000 in
theorem wd_6_47 : Cond.instanceMethod yX8_reads ∈ TB := tb6 (List.mem_of_getElem? (i := 47) rfl) rfl
set_option maxRecDepth 100000 in
theorem wd_6_48 : Cond.code yX8_reads cX8_reads 3 (some .boolean) ∈ TB := tb6 (List.mem_of_getElem? (i := 48) rfl) rfl
set_option maxRecDepth 100000 in
theorem wd_6_49 : Cond.methodLink RX8 173 yX8_wordOf ∈ TB := tb6 (List.mem_of_getElem? (i := 49) rfl) rfl
set_option maxRecDepth 100000 in
theorem wd_6_51 : Cond.instanceMethod yX8_wordOf ∈ TB := tb6 (List.mem_of_getElem? (i := 51) rfl) rfl
set_option maxRecDepth 100000 in
theorem wd_6_52 : Cond.code yX8_wordOf cX8_wordOf 6 (some .long) ∈ TB := tb6 (List.mem_of_getElem? (i := 52) rfl) rfl
set_option maxRecDepth 100000 in
theorem wd_6_53 : Cond.constantLong RX8 162 (27) ∈ TB := tb6 (List.mem_of_getElem? (i := 53) rfl) rfl
set_option maxRecDepth 100000 in
theorem wd_6_54 : Cond.constantLong RX8 164 (97) ∈ TB := tb6 (List.mem_of_getElem? (i := 54) rfl) rfl
set_option maxRecDepth 100000 in
theorem wd_6_55 : Cond.methodLink RX8 177 yX8_commandOf ∈ TB := tb6 (List.mem_of_getElem? (i := 55) rfl) rfl
set_option maxRecDepth 100000 in
theorem wd_6_56 : Cond.static yX8_commandOf ∈ TB := tb6 (List.mem_of_getElem? (i := 56) rfl) rfl
set_option maxRecDepth 100000 in
theorem wd_6_57 : Cond.code yX8_commandOf cX8_commandOf 2 (some .int) ∈ TB := tb6 (List.mem_of_getElem? (i := 57) rfl) rfl
set_option maxRecDepth 100000 in
theorem wd_6_58 : Cond.methodLink RX8 166 yX8_code ∈ TB := tb6 (List.mem_of_getElem? (i := 58) rfl) rfl
set_option maxRecDepth 100000 in
theorem wd_6_59 : Cond.static yX8_code ∈ TB := tb6 (List.mem_of_getElem? (i := 59) rfl) rfl
set_option maxRecDepth 100000 in
theorem wd_6_60 : Cond.code yX8_code cX8_code 10 (some .long) ∈ TB := tb6 (List.mem_of_getElem? (i := 60) rfl) rfl
set_option maxRecDepth 100000 in
theorem wd_6_61 : Cond.methodLink RX8 184 yX8_numbersOf ∈ TB := tb6 (List.mem_of_getElem? (i := 61) rfl) rfl
set_option maxRecDepth 100000 in
theorem wd_6_62 : Cond.static yX8_numbersOf ∈ TB := tb6 (List.mem_of_getElem? (i := 62) rfl) rfl
set_option maxRecDepth 100000 in
theorem wd_6_63 : Cond.code yX8_numbersOf cX8_numbersOf 1 (some .int) ∈ TB := tb6 (List.mem_of_getElem? (i := 63) rfl) rfl
set_option maxRecDepth 100000 in
theorem wd_6_64 : Cond.methodLink RX8 187 yX8_number ∈ TB := tb6 (List.mem_of_getElem? (i := 64) rfl) rfl
set_option maxRecDepth 100000 in
theorem wd_6_66 : Cond.instanceMethod yX8_number ∈ TB := tb6 (List.mem_of_getElem? (i := 66) rfl) rfl
set_option maxRecDepth 100000 in
theorem wd_6_67 : Cond.code yX8_number cX8_number 3 (some .boolean) ∈ TB := tb6 (List.mem_of_getElem? (i := 67) rfl) rfl
set_option maxRecDepth 100000 in
theorem wd_6_68 : Cond.methodLink RX8 227 yX8_does ∈ TB := tb6 (List.mem_of_getElem? (i := 68) rfl) rfl
set_option maxRecDepth 100000 in
theorem wd_6_70 : Cond.instanceMethod yX8_does ∈ TB := tb6 (List.mem_of_getElem? (i := 70) rfl) rfl
set_option maxRecDepth 100000 in
theorem wd_6_71 : Cond.code yX8_does cX8_does 1 (some .int) ∈ TB := tb6 (List.mem_of_getElem? (i := 71) rfl) rfl
set_option maxRecDepth 100000 in
theorem wd_6_72 : Cond.methodLink RX8 194 yX8_begin ∈ TB := tb6 (List.mem_of_getElem? (i := 72) rfl) rfl
set_option maxRecDepth 100000 in
theorem wd_6_73 : Cond.methodLink RX8 197 yX8_addLabel ∈ TB := tb6 (List.mem_of_getElem? (i := 73) rfl) rfl
set_option maxRecDepth 100000 in
theorem wd_6_74 : Cond.methodLink RX8 200 yX8_setRow ∈ TB := tb6 (List.mem_of_getElem? (i := 74) rfl) rfl
set_option maxRecDepth 100000 in
theorem wd_6_75 : Cond.methodLink RX8 203 yX8_addCustomer ∈ TB := tb6 (List.mem_of_getElem? (i := 75) rfl) rfl
set_option maxRecDepth 100000 in
theorem wd_6_76 : Cond.methodLink RX8 206 yX8_rent ∈ TB := tb6 (List.mem_of_getElem? (i := 76) rfl) rfl
set_option maxRecDepth 100000 in
theorem wd_6_77 : Cond.methodLink RX8 209 yX8_print ∈ TB := tb6 (List.mem_of_getElem? (i := 77) rfl) rfl
set_option maxRecDepth 100000 in
theorem wd_6_78 : Cond.methodLink RX8 212 yX8_printBest ∈ TB := tb6 (List.mem_of_getElem? (i := 78) rfl) rfl
set_option maxRecDepth 100000 in
theorem wd_6_79 : Cond.methodLink RX8 215 yX8_cool ∈ TB := tb6 (List.mem_of_getElem? (i := 79) rfl) rfl
set_option maxRecDepth 100000 in
theorem wd_6_80 : Cond.methodLink RX8 218 yX8_replace ∈ TB := tb6 (List.mem_of_getElem? (i := 80) rfl) rfl
set_option maxRecDepth 100000 in
theorem wd_6_81 : Cond.methodLink RX8 221 yX8_set ∈ TB := tb6 (List.mem_of_getElem? (i := 81) rfl) rfl
set_option maxRecDepth 100000 in
theorem wd_6_90 : Cond.constantLong RX8 230 (1346888) ∈ TB := tb6 (List.mem_of_getElem? (i := 90) rfl) rfl
set_option maxRecDepth 100000 in
theorem wd_6_91 : Cond.constantLong RX8 232 (31) ∈ TB := tb6 (List.mem_of_getElem? (i := 91) rfl) rfl
set_option maxRecDepth 100000 in
theorem wd_6_95 : Cond.fieldLink RJ0 9 "java/lang/String" "value" "[B" ∈ TB := tb6 (List.mem_of_getElem? (i := 95) rfl) rfl
set_option maxRecDepth 100000 in
theorem wd_6_96 : Cond.fieldLink RJ0 15 "java/lang/String" "coder" "B" ∈ TB := tb6 (List.mem_of_getElem? (i := 96) rfl) rfl
set_option maxRecDepth 100000 in
theorem wd_6_98 : Cond.fieldLink RJx29ce0 7 "java/lang/Enum" "ordinal" "I" ∈ TB := tb6 (List.mem_of_getElem? (i := 98) rfl) rfl
set_option maxRecDepth 100000 in
theorem wp_1_0 : Cond.selects RX1 yX1_skipSpaces yX1_skipSpaces ∈ TB := tbs1 (q := (yX1_skipSpaces, 6)) (List.mem_of_getElem? (i := 0) rfl)
set_option maxRecDepth 100000 in
theorem wp_1_1 : Cond.selects RX1 yX1_skipLetters yX1_skipLetters ∈ TB := tbs1 (q := (yX1_skipLetters, 6)) (List.mem_of_getElem? (i := 1) rfl)
set_option maxRecDepth 100000 in
theorem wp_1_2 : Cond.selects RX1 yX1_wordBetween yX1_wordBetween ∈ TB := tbs1 (q := (yX1_wordBetween, 6)) (List.mem_of_getElem? (i := 2) rfl)
set_option maxRecDepth 100000 in
theorem wp_1_3 : Cond.selects RX1 yX1_isBetween yX1_isBetween ∈ TB := tbs1 (q := (yX1_isBetween, 6)) (List.mem_of_getElem? (i := 3) rfl)
set_option maxRecDepth 100000 in
theorem wp_1_4 : Cond.selects RX1 yX1_readNumbers yX1_readNumbers ∈ TB := tbs1 (q := (yX1_readNumbers, 6)) (List.mem_of_getElem? (i := 4) rfl)
set_option maxRecDepth 100000 in
theorem wp_1_5 : Cond.selects RX1 yX1_readNumber yX1_readNumber ∈ TB := tbs1 (q := (yX1_readNumber, 6)) (List.mem_of_getElem? (i := 5) rfl)
set_option maxRecDepth 100000 in
theorem wp_1_6 : Cond.selects RX1 yX1_readSemicolon yX1_readSemicolon ∈ TB := tbs1 (q := (yX1_readSemicolon, 6)) (List.mem_of_getElem? (i := 6) rfl)
set_option maxRecDepth 100000 in
theorem wp_1_7 : Cond.selects RX7 yX7_save yX7_save ∈ TB := tbs1 (q := (yX7_save, 4)) (List.mem_of_getElem? (i := 7) rfl)
set_option maxRecDepth 100000 in
theorem wp_1_8 : Cond.selects RX5 yX5_othersRentOneOf yX5_othersRentOneOf ∈ TB := tbs1 (q := (yX5_othersRentOneOf, 8)) (List.mem_of_getElem? (i := 8) rfl)
set_option maxRecDepth 100000 in
theorem wp_1_9 : Cond.selects RX3 yX3_burn yX3_burn ∈ TB := tbs1 (q := (yX3_burn, 5)) (List.mem_of_getElem? (i := 9) rfl)
set_option maxRecDepth 100000 in
theorem wp_1_10 : Cond.selects RX5 yX5_allWear yX5_allWear ∈ TB := tbs1 (q := (yX5_allWear, 8)) (List.mem_of_getElem? (i := 10) rfl)
set_option maxRecDepth 100000 in
theorem wp_1_11 : Cond.selects RX5 yX5_allRented yX5_allRented ∈ TB := tbs1 (q := (yX5_allRented, 8)) (List.mem_of_getElem? (i := 11) rfl)
set_option maxRecDepth 100000 in
theorem wp_1_12 : Cond.selects RX5 yX5_book yX5_book ∈ TB := tbs1 (q := (yX5_book, 8)) (List.mem_of_getElem? (i := 12) rfl)
set_option maxRecDepth 100000 in
theorem wp_1_14 : Cond.selects RX5 yX5_allPrinted yX5_allPrinted ∈ TB := tbs1 (q := (yX5_allPrinted, 8)) (List.mem_of_getElem? (i := 14) rfl)
set_option maxRecDepth 100000 in
theorem wp_1_15 : Cond.selects RX5 yX5_allFailed yX5_allFailed ∈ TB := tbs1 (q := (yX5_allFailed, 8)) (List.mem_of_getElem? (i := 15) rfl)
set_option maxRecDepth 100000 in
theorem wp_2_0 : Cond.selects RX5 yX5_allEarned yX5_allEarned ∈ TB := tbs2 (q := (yX5_allEarned, 8)) (List.mem_of_getElem? (i := 0) rfl)
set_option maxRecDepth 100000 in
theorem wp_2_1 : Cond.selects RX7 yX7_mixDots yX7_mixDots ∈ TB := tbs2 (q := (yX7_mixDots, 4)) (List.mem_of_getElem? (i := 1) rfl)
set_option maxRecDepth 100000 in
theorem wp_2_2 : Cond.selects RX5 yX5_renterOf yX5_renterOf ∈ TB := tbs2 (q := (yX5_renterOf, 8)) (List.mem_of_getElem? (i := 2) rfl)
set_option maxRecDepth 100000 in
theorem wp_2_3 : Cond.selects RX7 yX7_mixLabels yX7_mixLabels ∈ TB := tbs2 (q := (yX7_mixLabels, 4)) (List.mem_of_getElem? (i := 3) rfl)
set_option maxRecDepth 100000 in
theorem wp_2_4 : Cond.selects RX7 yX7_mixCustomers yX7_mixCustomers ∈ TB := tbs2 (q := (yX7_mixCustomers, 4)) (List.mem_of_getElem? (i := 4) rfl)
set_option maxRecDepth 100000 in
theorem wp_2_5 : Cond.selects RX8 yX8_throwsAt yX8_throwsAt ∈ TB := tbs2 (q := (yX8_throwsAt, 11)) (List.mem_of_getElem? (i := 5) rfl)
set_option maxRecDepth 100000 in
theorem wp_2_6 : Cond.selects RX8 yX8_saves yX8_saves ∈ TB := tbs2 (q := (yX8_saves, 11)) (List.mem_of_getElem? (i := 6) rfl)
set_option maxRecDepth 100000 in
theorem wp_2_7 : Cond.selects RX8 yX8_sumOf yX8_sumOf ∈ TB := tbs2 (q := (yX8_sumOf, 11)) (List.mem_of_getElem? (i := 7) rfl)
set_option maxRecDepth 100000 in
theorem wp_2_8 : Cond.selects RX8 yX8_frees yX8_frees ∈ TB := tbs2 (q := (yX8_frees, 11)) (List.mem_of_getElem? (i := 8) rfl)
set_option maxRecDepth 100000 in
theorem wp_2_9 : Cond.selects RX8 yX8_isLabel yX8_isLabel ∈ TB := tbs2 (q := (yX8_isLabel, 11)) (List.mem_of_getElem? (i := 9) rfl)
set_option maxRecDepth 100000 in
theorem wp_2_10 : Cond.selects RX8 yX8_labelOf yX8_labelOf ∈ TB := tbs2 (q := (yX8_labelOf, 11)) (List.mem_of_getElem? (i := 10) rfl)
set_option maxRecDepth 100000 in
theorem wp_2_11 : Cond.selects RX8 yX8_isDot yX8_isDot ∈ TB := tbs2 (q := (yX8_isDot, 11)) (List.mem_of_getElem? (i := 11) rfl)
set_option maxRecDepth 100000 in
theorem wp_2_12 : Cond.selects RX8 yX8_isCustomer yX8_isCustomer ∈ TB := tbs2 (q := (yX8_isCustomer, 11)) (List.mem_of_getElem? (i := 12) rfl)
set_option maxRecDepth 100000 in
theorem wp_2_13 : Cond.selects RX8 yX8_isTaken yX8_isTaken ∈ TB := tbs2 (q := (yX8_isTaken, 11)) (List.mem_of_getElem? (i := 13) rfl)
set_option maxRecDepth 100000 in
theorem wp_2_14 : Cond.selects RX8 yX8_renter yX8_renter ∈ TB := tbs2 (q := (yX8_renter, 11)) (List.mem_of_getElem? (i := 14) rfl)
set_option maxRecDepth 100000 in
theorem wp_2_15 : Cond.selects RX8 yX8_customerOf yX8_customerOf ∈ TB := tbs2 (q := (yX8_customerOf, 11)) (List.mem_of_getElem? (i := 15) rfl)
set_option maxRecDepth 100000 in
theorem wp_3_0 : Cond.selects RX8 yX8_rented yX8_rented ∈ TB := tbs3 (q := (yX8_rented, 11)) (List.mem_of_getElem? (i := 0) rfl)
set_option maxRecDepth 100000 in
theorem wp_3_1 : Cond.selects RX8 yX8_wrong yX8_wrong ∈ TB := tbs3 (q := (yX8_wrong, 11)) (List.mem_of_getElem? (i := 1) rfl)
set_option maxRecDepth 100000 in
theorem wp_3_2 : Cond.selects RX8 yX8_whyNot yX8_whyNot ∈ TB := tbs3 (q := (yX8_whyNot, 11)) (List.mem_of_getElem? (i := 2) rfl)
set_option maxRecDepth 100000 in
theorem wp_3_3 : Cond.selects RX8 yX8_blacks yX8_blacks ∈ TB := tbs3 (q := (yX8_blacks, 11)) (List.mem_of_getElem? (i := 3) rfl)
set_option maxRecDepth 100000 in
theorem wp_3_4 : Cond.selects RX8 yX8_prints yX8_prints ∈ TB := tbs3 (q := (yX8_prints, 11)) (List.mem_of_getElem? (i := 4) rfl)
set_option maxRecDepth 100000 in
theorem wp_3_5 : Cond.selects RX8 yX8_priceOf yX8_priceOf ∈ TB := tbs3 (q := (yX8_priceOf, 11)) (List.mem_of_getElem? (i := 5) rfl)
set_option maxRecDepth 100000 in
theorem wp_3_6 : Cond.selects RX8 yX8_plays yX8_plays ∈ TB := tbs3 (q := (yX8_plays, 11)) (List.mem_of_getElem? (i := 6) rfl)
set_option maxRecDepth 100000 in
theorem wp_3_7 : Cond.selects RX8 yX8_best yX8_best ∈ TB := tbs3 (q := (yX8_best, 11)) (List.mem_of_getElem? (i := 7) rfl)
set_option maxRecDepth 100000 in
theorem wp_3_8 : Cond.selects RX8 yX8_badOf yX8_badOf ∈ TB := tbs3 (q := (yX8_badOf, 11)) (List.mem_of_getElem? (i := 8) rfl)
set_option maxRecDepth 100000 in
theorem wp_3_9 : Cond.selects RX8 yX8_copies yX8_copies ∈ TB := tbs3 (q := (yX8_copies, 11)) (List.mem_of_getElem? (i := 9) rfl)
set_option maxRecDepth 100000 in
theorem wp_3_10 : Cond.selects RX8 yX8_valueOf yX8_valueOf ∈ TB := tbs3 (q := (yX8_valueOf, 11)) (List.mem_of_getElem? (i := 10) rfl)
set_option maxRecDepth 100000 in
theorem wp_3_11 : Cond.selects RX8 yX8_ofLabel yX8_ofLabel ∈ TB := tbs3 (q := (yX8_ofLabel, 11)) (List.mem_of_getElem? (i := 11) rfl)
set_option maxRecDepth 100000 in
theorem wp_3_12 : Cond.selects RX8 yX8_empties yX8_empties ∈ TB := tbs3 (q := (yX8_empties, 11)) (List.mem_of_getElem? (i := 12) rfl)
set_option maxRecDepth 100000 in
theorem wp_3_13 : Cond.selects RX8 yX8_wholeOf yX8_wholeOf ∈ TB := tbs3 (q := (yX8_wholeOf, 11)) (List.mem_of_getElem? (i := 13) rfl)
set_option maxRecDepth 100000 in
theorem wp_3_14 : Cond.selects RX8 yX8_earned yX8_earned ∈ TB := tbs3 (q := (yX8_earned, 11)) (List.mem_of_getElem? (i := 14) rfl)
set_option maxRecDepth 100000 in
theorem wp_3_15 : Cond.selects RX8 yX8_worn yX8_worn ∈ TB := tbs3 (q := (yX8_worn, 11)) (List.mem_of_getElem? (i := 15) rfl)
set_option maxRecDepth 100000 in
theorem wp_4_0 : Cond.selects RX8 yX8_fault yX8_fault ∈ TB := tbs4 (q := (yX8_fault, 11)) (List.mem_of_getElem? (i := 0) rfl)
set_option maxRecDepth 100000 in
theorem wp_4_1 : Cond.selects RX8 yX8_skips yX8_skips ∈ TB := tbs4 (q := (yX8_skips, 11)) (List.mem_of_getElem? (i := 1) rfl)
set_option maxRecDepth 100000 in
theorem wp_4_2 : Cond.selects RX8 yX8_isAt yX8_isAt ∈ TB := tbs4 (q := (yX8_isAt, 11)) (List.mem_of_getElem? (i := 2) rfl)
set_option maxRecDepth 100000 in
theorem wp_4_3 : Cond.selects RX8 yX8_reads yX8_reads ∈ TB := tbs4 (q := (yX8_reads, 11)) (List.mem_of_getElem? (i := 3) rfl)
set_option maxRecDepth 100000 in
theorem wp_4_4 : Cond.selects RX8 yX8_wordOf yX8_wordOf ∈ TB := tbs4 (q := (yX8_wordOf, 11)) (List.mem_of_getElem? (i := 4) rfl)
set_option maxRecDepth 100000 in
theorem wp_4_5 : Cond.selects RX8 yX8_number yX8_number ∈ TB := tbs4 (q := (yX8_number, 11)) (List.mem_of_getElem? (i := 5) rfl)
set_option maxRecDepth 100000 in
theorem wp_4_6 : Cond.selects RX8 yX8_does yX8_does ∈ TB := tbs4 (q := (yX8_does, 11)) (List.mem_of_getElem? (i := 6) rfl)
theorem mm_J0_charAt_5068e : Cond.instanceMethod yJ0_charAt_5068e ∈ TB ∧ Cond.selects RJ0 yJ0_charAt_5068e yJ0_charAt_5068e ∈ TB ∧ Cond.initialized RJ0 ∈ TB ∧ Cond.code yJ0_charAt_5068e cJ0_charAt_5068e 2 (some .char) ∈ TB := ⟨wd_2_34, wd_2_35, wd_1_19, wd_2_36⟩
theorem mm_J0_checkIndex_df160 : Cond.static yJ0_checkIndex_df160 ∈ TB ∧ Cond.initialized yJ0_checkIndex_df160.cls ∈ TB ∧ Cond.code yJ0_checkIndex_df160 cJ0_checkIndex_df160 2 none ∈ TB := ⟨wd_2_45, wd_1_19, wd_2_46⟩
theorem mm_J0_coder_7d493 : Cond.instanceMethod yJ0_coder_7d493 ∈ TB ∧ Cond.selects RJ0 yJ0_coder_7d493 yJ0_coder_7d493 ∈ TB ∧ Cond.initialized RJ0 ∈ TB ∧ Cond.code yJ0_coder_7d493 cJ0_coder_7d493 1 (some .byte) ∈ TB := ⟨wd_2_28, wd_2_29, wd_1_19, wd_2_30⟩
theorem mm_J0_isLatin1_aae02 : Cond.instanceMethod yJ0_isLatin1_aae02 ∈ TB ∧ Cond.selects RJ0 yJ0_isLatin1_aae02 yJ0_isLatin1_aae02 ∈ TB ∧ Cond.initialized RJ0 ∈ TB ∧ Cond.code yJ0_isLatin1_aae02 cJ0_isLatin1_aae02 1 (some .boolean) ∈ TB := ⟨wd_2_38, wd_2_39, wd_1_19, wd_2_40⟩
theorem mm_J0_length_8abf5 : Cond.instanceMethod yJ0_length_8abf5 ∈ TB ∧ Cond.selects RJ0 yJ0_length_8abf5 yJ0_length_8abf5 ∈ TB ∧ Cond.initialized RJ0 ∈ TB ∧ Cond.code yJ0_length_8abf5 cJ0_length_8abf5 1 (some .int) ∈ TB := ⟨wd_2_24, wd_2_25, wd_1_19, wd_2_26⟩
theorem mm_J1_charAt_3b067 : Cond.static yJ1_charAt_3b067 ∈ TB ∧ Cond.initialized yJ1_charAt_3b067.cls ∈ TB ∧ Cond.code yJ1_charAt_3b067 cJ1_charAt_3b067 2 (some .char) ∈ TB := ⟨wd_2_42, wd_1_20, wd_2_43⟩
theorem mm_J2_checkIndex_2214a : Cond.static yJ2_checkIndex_2214a ∈ TB ∧ Cond.initialized yJ2_checkIndex_2214a.cls ∈ TB ∧ Cond.code yJ2_checkIndex_2214a cJ2_checkIndex_2214a 2 none ∈ TB := ⟨wd_2_56, wd_1_22, wd_2_57⟩
theorem mm_J2_length_9d52b : Cond.static yJ2_length_9d52b ∈ TB ∧ Cond.initialized yJ2_length_9d52b.cls ∈ TB ∧ Cond.code yJ2_length_9d52b cJ2_length_9d52b 1 (some .int) ∈ TB := ⟨wd_2_59, wd_1_22, wd_2_60⟩
theorem mm_J3_checkIndex_8e157 : Cond.static yJ3_checkIndex_8e157 ∈ TB ∧ Cond.initialized yJ3_checkIndex_8e157.cls ∈ TB ∧ Cond.code yJ3_checkIndex_8e157 cJ3_checkIndex_8e157 3 (some .int) ∈ TB := ⟨wd_2_50, wd_1_21, wd_2_51⟩
theorem mm_J6_bitCount_0f7a4 : Cond.static yJ6_bitCount_0f7a4 ∈ TB ∧ Cond.initialized yJ6_bitCount_0f7a4.cls ∈ TB ∧ Cond.code yJ6_bitCount_0f7a4 cJ6_bitCount_0f7a4 1 (some .int) ∈ TB := ⟨wd_2_180, wd_1_17, wd_2_181⟩
theorem mm_X1_append : Cond.instanceMethod yX1_append ∈ TB ∧ Cond.selects RX1 yX1_append yX1_append ∈ TB ∧ Cond.initialized RX1 ∈ TB ∧ Cond.code yX1_append cX1_append 2 (some .int) ∈ TB := ⟨wd_4_227, wd_4_228, wd_1_2, wd_4_229⟩
theorem mm_X1_empty : Cond.instanceMethod yX1_empty ∈ TB ∧ Cond.selects RX1 yX1_empty yX1_empty ∈ TB ∧ Cond.initialized RX1 ∈ TB ∧ Cond.code yX1_empty cX1_empty 2 (some .int) ∈ TB := ⟨wd_1_226, wd_1_227, wd_1_2, wd_1_228⟩
theorem mm_X1_findFault : Cond.instanceMethod yX1_findFault ∈ TB ∧ Cond.selects RX1 yX1_findFault yX1_findFault ∈ TB ∧ Cond.initialized RX1 ∈ TB ∧ Cond.code yX1_findFault cX1_findFault 3 (some .int) ∈ TB := ⟨wd_1_234, wd_1_235, wd_1_2, wd_1_236⟩
theorem mm_X1_isBetween : Cond.instanceMethod yX1_isBetween ∈ TB ∧ Cond.selects RX1 yX1_isBetween yX1_isBetween ∈ TB ∧ Cond.initialized RX1 ∈ TB ∧ Cond.code yX1_isBetween cX1_isBetween 5 (some .boolean) ∈ TB := ⟨wd_2_21, wp_1_3, wd_1_2, wd_2_22⟩
theorem mm_X1_readCommand : Cond.instanceMethod yX1_readCommand ∈ TB ∧ Cond.selects RX1 yX1_readCommand yX1_readCommand ∈ TB ∧ Cond.initialized RX1 ∈ TB ∧ Cond.code yX1_readCommand cX1_readCommand 3 (some .boolean) ∈ TB := ⟨wd_2_2, wd_2_3, wd_1_2, wd_2_4⟩
theorem mm_X1_readNumber : Cond.instanceMethod yX1_readNumber ∈ TB ∧ Cond.selects RX1 yX1_readNumber yX1_readNumber ∈ TB ∧ Cond.initialized RX1 ∈ TB ∧ Cond.code yX1_readNumber cX1_readNumber 5 (some .boolean) ∈ TB := ⟨wd_2_77, wp_1_5, wd_1_2, wd_2_78⟩
theorem mm_X1_readNumbers : Cond.instanceMethod yX1_readNumbers ∈ TB ∧ Cond.selects RX1 yX1_readNumbers yX1_readNumbers ∈ TB ∧ Cond.initialized RX1 ∈ TB ∧ Cond.code yX1_readNumbers cX1_readNumbers 3 (some .boolean) ∈ TB := ⟨wd_2_73, wp_1_4, wd_1_2, wd_2_74⟩
theorem mm_X1_readSemicolon : Cond.instanceMethod yX1_readSemicolon ∈ TB ∧ Cond.selects RX1 yX1_readSemicolon yX1_readSemicolon ∈ TB ∧ Cond.initialized RX1 ∈ TB ∧ Cond.code yX1_readSemicolon cX1_readSemicolon 1 (some .boolean) ∈ TB := ⟨wd_2_81, wp_1_6, wd_1_2, wd_2_82⟩
theorem mm_X1_rewind : Cond.instanceMethod yX1_rewind ∈ TB ∧ Cond.selects RX1 yX1_rewind yX1_rewind ∈ TB ∧ Cond.initialized RX1 ∈ TB ∧ Cond.code yX1_rewind cX1_rewind 1 none ∈ TB := ⟨wd_1_238, wd_1_239, wd_1_2, wd_2_0⟩
theorem mm_X1_skipLetters : Cond.instanceMethod yX1_skipLetters ∈ TB ∧ Cond.selects RX1 yX1_skipLetters yX1_skipLetters ∈ TB ∧ Cond.initialized RX1 ∈ TB ∧ Cond.code yX1_skipLetters cX1_skipLetters 1 none ∈ TB := ⟨wd_2_11, wp_1_1, wd_1_2, wd_2_12⟩
theorem mm_X1_skipSpaces : Cond.instanceMethod yX1_skipSpaces ∈ TB ∧ Cond.selects RX1 yX1_skipSpaces yX1_skipSpaces ∈ TB ∧ Cond.initialized RX1 ∈ TB ∧ Cond.code yX1_skipSpaces cX1_skipSpaces 1 none ∈ TB := ⟨wd_2_7, wp_1_0, wd_1_2, wd_2_8⟩
theorem mm_X1_whyNotAppend : Cond.instanceMethod yX1_whyNotAppend ∈ TB ∧ Cond.selects RX1 yX1_whyNotAppend yX1_whyNotAppend ∈ TB ∧ Cond.initialized RX1 ∈ TB ∧ Cond.code yX1_whyNotAppend cX1_whyNotAppend 2 (some .int) ∈ TB := ⟨wd_4_223, wd_4_224, wd_1_2, wd_4_225⟩
theorem mm_X1_wordBetween : Cond.instanceMethod yX1_wordBetween ∈ TB ∧ Cond.selects RX1 yX1_wordBetween yX1_wordBetween ∈ TB ∧ Cond.initialized RX1 ∈ TB ∧ Cond.code yX1_wordBetween cX1_wordBetween 7 (some (.object "WornDots$Word")) ∈ TB := ⟨wd_2_15, wp_1_2, wd_1_2, wd_2_16⟩
theorem mm_X2_rentNothing : Cond.instanceMethod yX2_rentNothing ∈ TB ∧ Cond.selects RX2 yX2_rentNothing yX2_rentNothing ∈ TB ∧ Cond.initialized RX2 ∈ TB ∧ Cond.code yX2_rentNothing cX2_rentNothing 1 none ∈ TB := ⟨wd_3_33, wd_3_34, wd_1_9, wd_3_35⟩
theorem mm_X2_rented : Cond.instanceMethod yX2_rented ∈ TB ∧ Cond.selects RX2 yX2_rented yX2_rented ∈ TB ∧ Cond.initialized RX2 ∈ TB ∧ Cond.code yX2_rented cX2_rented 1 (some .int) ∈ TB := ⟨wd_3_57, wd_3_58, wd_1_9, wd_3_59⟩
theorem mm_X2_rentsAllOf : Cond.instanceMethod yX2_rentsAllOf ∈ TB ∧ Cond.selects RX2 yX2_rentsAllOf yX2_rentsAllOf ∈ TB ∧ Cond.initialized RX2 ∈ TB ∧ Cond.code yX2_rentsAllOf cX2_rentsAllOf 3 (some .boolean) ∈ TB := ⟨wd_2_226, wd_2_227, wd_1_9, wd_2_228⟩
theorem mm_X2_rentsOneOf : Cond.instanceMethod yX2_rentsOneOf ∈ TB ∧ Cond.selects RX2 yX2_rentsOneOf yX2_rentsOneOf ∈ TB ∧ Cond.initialized RX2 ∈ TB ∧ Cond.code yX2_rentsOneOf cX2_rentsOneOf 3 (some .boolean) ∈ TB := ⟨wd_2_160, wd_2_161, wd_1_9, wd_2_162⟩
theorem mm_X2_takeOver : Cond.instanceMethod yX2_takeOver ∈ TB ∧ Cond.selects RX2 yX2_takeOver yX2_takeOver ∈ TB ∧ Cond.initialized RX2 ∈ TB ∧ Cond.code yX2_takeOver cX2_takeOver 2 none ∈ TB := ⟨wd_2_102, wd_2_103, wd_1_9, wd_2_104⟩
theorem mm_X2_value : Cond.instanceMethod yX2_value ∈ TB ∧ Cond.selects RX2 yX2_value yX2_value ∈ TB ∧ Cond.initialized RX2 ∈ TB ∧ Cond.code yX2_value cX2_value 2 (some .int) ∈ TB := ⟨wd_4_14, wd_4_15, wd_1_9, wd_4_16⟩
theorem mm_X3_burn : Cond.instanceMethod yX3_burn ∈ TB ∧ Cond.selects RX3 yX3_burn yX3_burn ∈ TB ∧ Cond.initialized RX3 ∈ TB ∧ Cond.code yX3_burn cX3_burn 4 none ∈ TB := ⟨wd_2_215, wp_1_9, wd_1_5, wd_2_216⟩
theorem mm_X3_fadeOf : Cond.instanceMethod yX3_fadeOf ∈ TB ∧ Cond.selects RX3 yX3_fadeOf yX3_fadeOf ∈ TB ∧ Cond.initialized RX3 ∈ TB ∧ Cond.code yX3_fadeOf cX3_fadeOf 5 (some .int) ∈ TB := ⟨wd_2_210, wd_2_211, wd_1_5, wd_2_212⟩
theorem mm_X3_heatSum : Cond.instanceMethod yX3_heatSum ∈ TB ∧ Cond.selects RX3 yX3_heatSum yX3_heatSum ∈ TB ∧ Cond.initialized RX3 ∈ TB ∧ Cond.code yX3_heatSum cX3_heatSum 3 (some .int) ∈ TB := ⟨wd_3_78, wd_3_79, wd_1_5, wd_3_80⟩
theorem mm_X3_lose : Cond.instanceMethod yX3_lose ∈ TB ∧ Cond.selects RX3 yX3_lose yX3_lose ∈ TB ∧ Cond.initialized RX3 ∈ TB ∧ Cond.code yX3_lose cX3_lose 3 none ∈ TB := ⟨wd_2_218, wd_2_219, wd_1_5, wd_2_220⟩
theorem mm_X3_mostWornDot : Cond.instanceMethod yX3_mostWornDot ∈ TB ∧ Cond.selects RX3 yX3_mostWornDot yX3_mostWornDot ∈ TB ∧ Cond.initialized RX3 ∈ TB ∧ Cond.code yX3_mostWornDot cX3_mostWornDot 3 (some .int) ∈ TB := ⟨wd_1_218, wd_1_219, wd_1_5, wd_1_220⟩
theorem mm_X3_printRows : Cond.instanceMethod yX3_printRows ∈ TB ∧ Cond.selects RX3 yX3_printRows yX3_printRows ∈ TB ∧ Cond.initialized RX3 ∈ TB ∧ Cond.code yX3_printRows cX3_printRows 9 (some .int) ∈ TB := ⟨wd_2_206, wd_2_207, wd_1_5, wd_2_208⟩
theorem mm_X3_renew : Cond.instanceMethod yX3_renew ∈ TB ∧ Cond.selects RX3 yX3_renew yX3_renew ∈ TB ∧ Cond.initialized RX3 ∈ TB ∧ Cond.code yX3_renew cX3_renew 2 none ∈ TB := ⟨wd_3_29, wd_3_30, wd_1_5, wd_3_31⟩
theorem mm_X3_renewAll : Cond.instanceMethod yX3_renewAll ∈ TB ∧ Cond.selects RX3 yX3_renewAll yX3_renewAll ∈ TB ∧ Cond.initialized RX3 ∈ TB ∧ Cond.code yX3_renewAll cX3_renewAll 3 none ∈ TB := ⟨wd_3_25, wd_3_26, wd_1_5, wd_3_27⟩
theorem mm_X3_takeOver : Cond.instanceMethod yX3_takeOver ∈ TB ∧ Cond.selects RX3 yX3_takeOver yX3_takeOver ∈ TB ∧ Cond.initialized RX3 ∈ TB ∧ Cond.code yX3_takeOver cX3_takeOver 2 none ∈ TB := ⟨wd_2_92, wd_2_93, wd_1_5, wd_2_94⟩
theorem mm_X3_takePart : Cond.instanceMethod yX3_takePart ∈ TB ∧ Cond.selects RX3 yX3_takePart yX3_takePart ∈ TB ∧ Cond.initialized RX3 ∈ TB ∧ Cond.code yX3_takePart cX3_takePart 4 none ∈ TB := ⟨wd_2_202, wd_2_203, wd_1_5, wd_2_204⟩
theorem mm_X3_wearSum : Cond.instanceMethod yX3_wearSum ∈ TB ∧ Cond.selects RX3 yX3_wearSum yX3_wearSum ∈ TB ∧ Cond.initialized RX3 ∈ TB ∧ Cond.code yX3_wearSum cX3_wearSum 5 (some .int) ∈ TB := ⟨wd_2_230, wd_2_231, wd_1_5, wd_2_232⟩
theorem mm_X4_allColumns : Cond.instanceMethod yX4_allColumns ∈ TB ∧ Cond.selects RX4 yX4_allColumns yX4_allColumns ∈ TB ∧ Cond.initialized RX4 ∈ TB ∧ Cond.code yX4_allColumns cX4_allColumns 1 (some .int) ∈ TB := ⟨wd_2_136, wd_2_137, wd_1_8, wd_2_138⟩
theorem mm_X4_blackCells : Cond.instanceMethod yX4_blackCells ∈ TB ∧ Cond.selects RX4 yX4_blackCells yX4_blackCells ∈ TB ∧ Cond.initialized RX4 ∈ TB ∧ Cond.code yX4_blackCells cX4_blackCells 3 (some .int) ∈ TB := ⟨wd_2_176, wd_2_177, wd_1_8, wd_2_178⟩
theorem mm_X4_emptyColumns : Cond.instanceMethod yX4_emptyColumns ∈ TB ∧ Cond.selects RX4 yX4_emptyColumns yX4_emptyColumns ∈ TB ∧ Cond.initialized RX4 ∈ TB ∧ Cond.code yX4_emptyColumns cX4_emptyColumns 3 (some .int) ∈ TB := ⟨wd_4_5, wd_4_6, wd_1_8, wd_4_7⟩
theorem mm_X4_takeOver : Cond.instanceMethod yX4_takeOver ∈ TB ∧ Cond.selects RX4 yX4_takeOver yX4_takeOver ∈ TB ∧ Cond.initialized RX4 ∈ TB ∧ Cond.code yX4_takeOver cX4_takeOver 2 none ∈ TB := ⟨wd_2_97, wd_2_98, wd_1_8, wd_2_99⟩
theorem mm_X4_value : Cond.instanceMethod yX4_value ∈ TB ∧ Cond.selects RX4 yX4_value yX4_value ∈ TB ∧ Cond.initialized RX4 ∈ TB ∧ Cond.code yX4_value cX4_value 2 (some .int) ∈ TB := ⟨wd_4_0, wd_4_1, wd_1_8, wd_4_2⟩
theorem mm_X5_allEarned : Cond.instanceMethod yX5_allEarned ∈ TB ∧ Cond.selects RX5 yX5_allEarned yX5_allEarned ∈ TB ∧ Cond.initialized RX5 ∈ TB ∧ Cond.code yX5_allEarned cX5_allEarned 3 (some .int) ∈ TB := ⟨wd_3_220, wp_2_0, wd_1_6, wd_3_221⟩
theorem mm_X5_allFailed : Cond.instanceMethod yX5_allFailed ∈ TB ∧ Cond.selects RX5 yX5_allFailed yX5_allFailed ∈ TB ∧ Cond.initialized RX5 ∈ TB ∧ Cond.code yX5_allFailed cX5_allFailed 3 (some .int) ∈ TB := ⟨wd_3_216, wp_1_15, wd_1_6, wd_3_217⟩
theorem mm_X5_allPrinted : Cond.instanceMethod yX5_allPrinted ∈ TB ∧ Cond.selects RX5 yX5_allPrinted yX5_allPrinted ∈ TB ∧ Cond.initialized RX5 ∈ TB ∧ Cond.code yX5_allPrinted cX5_allPrinted 3 (some .int) ∈ TB := ⟨wd_3_212, wp_1_14, wd_1_6, wd_3_213⟩
theorem mm_X5_allRented : Cond.instanceMethod yX5_allRented ∈ TB ∧ Cond.selects RX5 yX5_allRented yX5_allRented ∈ TB ∧ Cond.initialized RX5 ∈ TB ∧ Cond.code yX5_allRented cX5_allRented 3 (some .int) ∈ TB := ⟨wd_3_54, wp_1_11, wd_1_6, wd_3_55⟩
theorem mm_X5_allWear : Cond.instanceMethod yX5_allWear ∈ TB ∧ Cond.selects RX5 yX5_allWear yX5_allWear ∈ TB ∧ Cond.initialized RX5 ∈ TB ∧ Cond.code yX5_allWear cX5_allWear 1 (some .int) ∈ TB := ⟨wd_3_22, wp_1_10, wd_1_6, wd_3_23⟩
theorem mm_X5_bestPlace : Cond.instanceMethod yX5_bestPlace ∈ TB ∧ Cond.selects RX5 yX5_bestPlace yX5_bestPlace ∈ TB ∧ Cond.initialized RX5 ∈ TB ∧ Cond.code yX5_bestPlace cX5_bestPlace 9 (some .int) ∈ TB := ⟨wd_2_194, wd_2_195, wd_1_6, wd_2_196⟩
theorem mm_X5_book : Cond.instanceMethod yX5_book ∈ TB ∧ Cond.selects RX5 yX5_book yX5_book ∈ TB ∧ Cond.initialized RX5 ∈ TB ∧ Cond.code yX5_book cX5_book 5 none ∈ TB := ⟨wd_3_66, wp_1_12, wd_1_6, wd_3_67⟩
theorem mm_X5_carryOut : Cond.instanceMethod yX5_carryOut ∈ TB ∧ Cond.selects RX5 yX5_carryOut yX5_carryOut ∈ TB ∧ Cond.initialized RX5 ∈ TB ∧ Cond.code yX5_carryOut cX5_carryOut 3 (some .int) ∈ TB := ⟨wd_3_13, wd_3_14, wd_1_6, wd_3_15⟩
theorem mm_X5_changeRow : Cond.instanceMethod yX5_changeRow ∈ TB ∧ Cond.selects RX5 yX5_changeRow yX5_changeRow ∈ TB ∧ Cond.initialized RX5 ∈ TB ∧ Cond.code yX5_changeRow cX5_changeRow 5 (some .int) ∈ TB := ⟨wd_3_41, wd_3_42, wd_1_6, wd_3_43⟩
theorem mm_X5_changeSetting : Cond.instanceMethod yX5_changeSetting ∈ TB ∧ Cond.selects RX5 yX5_changeSetting yX5_changeSetting ∈ TB ∧ Cond.initialized RX5 ∈ TB ∧ Cond.code yX5_changeSetting cX5_changeSetting 4 (some .int) ∈ TB := ⟨wd_3_87, wd_3_88, wd_1_6, wd_3_89⟩
theorem mm_X5_dotValue : Cond.instanceMethod yX5_dotValue ∈ TB ∧ Cond.selects RX5 yX5_dotValue yX5_dotValue ∈ TB ∧ Cond.initialized RX5 ∈ TB ∧ Cond.code yX5_dotValue cX5_dotValue 3 (some .int) ∈ TB := ⟨wd_3_227, wd_3_228, wd_1_6, wd_3_229⟩
theorem mm_X5_endLet : Cond.instanceMethod yX5_endLet ∈ TB ∧ Cond.selects RX5 yX5_endLet yX5_endLet ∈ TB ∧ Cond.initialized RX5 ∈ TB ∧ Cond.code yX5_endLet cX5_endLet 3 (some .int) ∈ TB := ⟨wd_4_106, wd_4_107, wd_1_6, wd_4_108⟩
theorem mm_X5_hasCustomer : Cond.instanceMethod yX5_hasCustomer ∈ TB ∧ Cond.selects RX5 yX5_hasCustomer yX5_hasCustomer ∈ TB ∧ Cond.initialized RX5 ∈ TB ∧ Cond.code yX5_hasCustomer cX5_hasCustomer 2 (some .boolean) ∈ TB := ⟨wd_2_148, wd_2_149, wd_1_6, wd_2_150⟩
theorem mm_X5_hasDot : Cond.instanceMethod yX5_hasDot ∈ TB ∧ Cond.selects RX5 yX5_hasDot yX5_hasDot ∈ TB ∧ Cond.initialized RX5 ∈ TB ∧ Cond.code yX5_hasDot cX5_hasDot 2 (some .boolean) ∈ TB := ⟨wd_2_152, wd_2_153, wd_1_6, wd_2_154⟩
theorem mm_X5_hasLabel : Cond.instanceMethod yX5_hasLabel ∈ TB ∧ Cond.selects RX5 yX5_hasLabel yX5_hasLabel ∈ TB ∧ Cond.initialized RX5 ∈ TB ∧ Cond.code yX5_hasLabel cX5_hasLabel 2 (some .boolean) ∈ TB := ⟨wd_2_132, wd_2_133, wd_1_6, wd_2_134⟩
theorem mm_X5_let : Cond.instanceMethod yX5_let ∈ TB ∧ Cond.selects RX5 yX5_let yX5_let ∈ TB ∧ Cond.initialized RX5 ∈ TB ∧ Cond.code yX5_let cX5_let 4 (some .int) ∈ TB := ⟨wd_3_49, wd_3_50, wd_1_6, wd_3_51⟩
theorem mm_X5_newCustomer : Cond.instanceMethod yX5_newCustomer ∈ TB ∧ Cond.selects RX5 yX5_newCustomer yX5_newCustomer ∈ TB ∧ Cond.initialized RX5 ∈ TB ∧ Cond.code yX5_newCustomer cX5_newCustomer 1 (some .int) ∈ TB := ⟨wd_3_45, wd_3_46, wd_1_6, wd_3_47⟩
theorem mm_X5_newDot : Cond.instanceMethod yX5_newDot ∈ TB ∧ Cond.selects RX5 yX5_newDot yX5_newDot ∈ TB ∧ Cond.initialized RX5 ∈ TB ∧ Cond.code yX5_newDot cX5_newDot 3 (some .int) ∈ TB := ⟨wd_3_82, wd_3_83, wd_1_6, wd_3_84⟩
theorem mm_X5_newHead : Cond.instanceMethod yX5_newHead ∈ TB ∧ Cond.selects RX5 yX5_newHead yX5_newHead ∈ TB ∧ Cond.initialized RX5 ∈ TB ∧ Cond.code yX5_newHead cX5_newHead 4 (some .int) ∈ TB := ⟨wd_3_17, wd_3_18, wd_1_6, wd_3_19⟩
theorem mm_X5_newLabel : Cond.instanceMethod yX5_newLabel ∈ TB ∧ Cond.selects RX5 yX5_newLabel yX5_newLabel ∈ TB ∧ Cond.initialized RX5 ∈ TB ∧ Cond.code yX5_newLabel cX5_newLabel 3 (some .int) ∈ TB := ⟨wd_3_37, wd_3_38, wd_1_6, wd_3_39⟩
theorem mm_X5_othersRentOneOf : Cond.instanceMethod yX5_othersRentOneOf ∈ TB ∧ Cond.selects RX5 yX5_othersRentOneOf yX5_othersRentOneOf ∈ TB ∧ Cond.initialized RX5 ∈ TB ∧ Cond.code yX5_othersRentOneOf cX5_othersRentOneOf 5 (some .boolean) ∈ TB := ⟨wd_2_157, wp_1_8, wd_1_6, wd_2_158⟩
theorem mm_X5_passLines : Cond.instanceMethod yX5_passLines ∈ TB ∧ Cond.selects RX5 yX5_passLines yX5_passLines ∈ TB ∧ Cond.initialized RX5 ∈ TB ∧ Cond.code yX5_passLines cX5_passLines 2 (some .int) ∈ TB := ⟨wd_3_73, wd_3_74, wd_1_6, wd_3_75⟩
theorem mm_X5_priceAt : Cond.instanceMethod yX5_priceAt ∈ TB ∧ Cond.selects RX5 yX5_priceAt yX5_priceAt ∈ TB ∧ Cond.initialized RX5 ∈ TB ∧ Cond.code yX5_priceAt cX5_priceAt 8 (some .int) ∈ TB := ⟨wd_2_222, wd_2_223, wd_1_6, wd_2_224⟩
theorem mm_X5_printAt : Cond.instanceMethod yX5_printAt ∈ TB ∧ Cond.selects RX5 yX5_printAt yX5_printAt ∈ TB ∧ Cond.initialized RX5 ∈ TB ∧ Cond.code yX5_printAt cX5_printAt 6 (some .int) ∈ TB := ⟨wd_3_61, wd_3_62, wd_1_6, wd_3_63⟩
theorem mm_X5_printAtBest : Cond.instanceMethod yX5_printAtBest ∈ TB ∧ Cond.selects RX5 yX5_printAtBest yX5_printAtBest ∈ TB ∧ Cond.initialized RX5 ∈ TB ∧ Cond.code yX5_printAtBest cX5_printAtBest 4 (some .int) ∈ TB := ⟨wd_3_69, wd_3_70, wd_1_6, wd_3_71⟩
theorem mm_X5_readableAt : Cond.instanceMethod yX5_readableAt ∈ TB ∧ Cond.selects RX5 yX5_readableAt yX5_readableAt ∈ TB ∧ Cond.initialized RX5 ∈ TB ∧ Cond.code yX5_readableAt cX5_readableAt 4 (some .int) ∈ TB := ⟨wd_4_212, wd_4_213, wd_1_6, wd_4_214⟩
theorem mm_X5_reasonAt : Cond.instanceMethod yX5_reasonAt ∈ TB ∧ Cond.selects RX5 yX5_reasonAt yX5_reasonAt ∈ TB ∧ Cond.initialized RX5 ∈ TB ∧ Cond.code yX5_reasonAt cX5_reasonAt 5 (some .int) ∈ TB := ⟨wd_2_172, wd_2_173, wd_1_6, wd_2_174⟩
theorem mm_X5_renterOf : Cond.instanceMethod yX5_renterOf ∈ TB ∧ Cond.selects RX5 yX5_renterOf yX5_renterOf ∈ TB ∧ Cond.initialized RX5 ∈ TB ∧ Cond.code yX5_renterOf cX5_renterOf 3 (some .int) ∈ TB := ⟨wd_3_232, wp_2_2, wd_1_6, wd_3_233⟩
theorem mm_X5_takeOver : Cond.instanceMethod yX5_takeOver ∈ TB ∧ Cond.selects RX5 yX5_takeOver yX5_takeOver ∈ TB ∧ Cond.initialized RX5 ∈ TB ∧ Cond.code yX5_takeOver cX5_takeOver 3 none ∈ TB := ⟨wd_2_88, wd_2_89, wd_1_6, wd_2_90⟩
theorem mm_X5_unreadableAt : Cond.instanceMethod yX5_unreadableAt ∈ TB ∧ Cond.selects RX5 yX5_unreadableAt yX5_unreadableAt ∈ TB ∧ Cond.initialized RX5 ∈ TB ∧ Cond.code yX5_unreadableAt cX5_unreadableAt 3 (some .int) ∈ TB := ⟨wd_2_198, wd_2_199, wd_1_6, wd_2_200⟩
theorem mm_X5_wholeValue : Cond.instanceMethod yX5_wholeValue ∈ TB ∧ Cond.selects RX5 yX5_wholeValue yX5_wholeValue ∈ TB ∧ Cond.initialized RX5 ∈ TB ∧ Cond.code yX5_wholeValue cX5_wholeValue 2 (some .int) ∈ TB := ⟨wd_3_207, wd_3_208, wd_1_6, wd_3_209⟩
theorem mm_X5_whyNotAskAbout : Cond.instanceMethod yX5_whyNotAskAbout ∈ TB ∧ Cond.selects RX5 yX5_whyNotAskAbout yX5_whyNotAskAbout ∈ TB ∧ Cond.initialized RX5 ∈ TB ∧ Cond.code yX5_whyNotAskAbout cX5_whyNotAskAbout 4 (some .int) ∈ TB := ⟨wd_2_168, wd_2_169, wd_1_6, wd_2_170⟩
theorem mm_X5_whyNotCarryOut : Cond.instanceMethod yX5_whyNotCarryOut ∈ TB ∧ Cond.selects RX5 yX5_whyNotCarryOut yX5_whyNotCarryOut ∈ TB ∧ Cond.initialized RX5 ∈ TB ∧ Cond.code yX5_whyNotCarryOut cX5_whyNotCarryOut 3 (some .int) ∈ TB := ⟨wd_2_108, wd_2_109, wd_1_6, wd_2_110⟩
theorem mm_X5_whyNotChangeRow : Cond.instanceMethod yX5_whyNotChangeRow ∈ TB ∧ Cond.selects RX5 yX5_whyNotChangeRow yX5_whyNotChangeRow ∈ TB ∧ Cond.initialized RX5 ∈ TB ∧ Cond.code yX5_whyNotChangeRow cX5_whyNotChangeRow 5 (some .int) ∈ TB := ⟨wd_2_128, wd_2_129, wd_1_6, wd_2_130⟩
theorem mm_X5_whyNotChangeSetting : Cond.instanceMethod yX5_whyNotChangeSetting ∈ TB ∧ Cond.selects RX5 yX5_whyNotChangeSetting yX5_whyNotChangeSetting ∈ TB ∧ Cond.initialized RX5 ∈ TB ∧ Cond.code yX5_whyNotChangeSetting cX5_whyNotChangeSetting 3 (some .int) ∈ TB := ⟨wd_3_5, wd_3_6, wd_1_6, wd_3_7⟩
theorem mm_X5_whyNotCustomerValue : Cond.instanceMethod yX5_whyNotCustomerValue ∈ TB ∧ Cond.selects RX5 yX5_whyNotCustomerValue yX5_whyNotCustomerValue ∈ TB ∧ Cond.initialized RX5 ∈ TB ∧ Cond.code yX5_whyNotCustomerValue cX5_whyNotCustomerValue 3 (some .int) ∈ TB := ⟨wd_4_164, wd_4_165, wd_1_6, wd_4_166⟩
theorem mm_X5_whyNotDotValue : Cond.instanceMethod yX5_whyNotDotValue ∈ TB ∧ Cond.selects RX5 yX5_whyNotDotValue yX5_whyNotDotValue ∈ TB ∧ Cond.initialized RX5 ∈ TB ∧ Cond.code yX5_whyNotDotValue cX5_whyNotDotValue 3 (some .int) ∈ TB := ⟨wd_4_135, wd_4_136, wd_1_6, wd_4_137⟩
theorem mm_X5_whyNotEndLet : Cond.instanceMethod yX5_whyNotEndLet ∈ TB ∧ Cond.selects RX5 yX5_whyNotEndLet yX5_whyNotEndLet ∈ TB ∧ Cond.initialized RX5 ∈ TB ∧ Cond.code yX5_whyNotEndLet cX5_whyNotEndLet 2 (some .int) ∈ TB := ⟨wd_4_102, wd_4_103, wd_1_6, wd_4_104⟩
theorem mm_X5_whyNotLabelValue : Cond.instanceMethod yX5_whyNotLabelValue ∈ TB ∧ Cond.selects RX5 yX5_whyNotLabelValue yX5_whyNotLabelValue ∈ TB ∧ Cond.initialized RX5 ∈ TB ∧ Cond.code yX5_whyNotLabelValue cX5_whyNotLabelValue 4 (some .int) ∈ TB := ⟨wd_4_146, wd_4_147, wd_1_6, wd_4_148⟩
theorem mm_X5_whyNotLet : Cond.instanceMethod yX5_whyNotLet ∈ TB ∧ Cond.selects RX5 yX5_whyNotLet yX5_whyNotLet ∈ TB ∧ Cond.initialized RX5 ∈ TB ∧ Cond.code yX5_whyNotLet cX5_whyNotLet 4 (some .int) ∈ TB := ⟨wd_2_144, wd_2_145, wd_1_6, wd_2_146⟩
theorem mm_X5_whyNotNewCustomer : Cond.instanceMethod yX5_whyNotNewCustomer ∈ TB ∧ Cond.selects RX5 yX5_whyNotNewCustomer yX5_whyNotNewCustomer ∈ TB ∧ Cond.initialized RX5 ∈ TB ∧ Cond.code yX5_whyNotNewCustomer cX5_whyNotNewCustomer 1 (some .int) ∈ TB := ⟨wd_2_140, wd_2_141, wd_1_6, wd_2_142⟩
theorem mm_X5_whyNotNewDot : Cond.instanceMethod yX5_whyNotNewDot ∈ TB ∧ Cond.selects RX5 yX5_whyNotNewDot yX5_whyNotNewDot ∈ TB ∧ Cond.initialized RX5 ∈ TB ∧ Cond.code yX5_whyNotNewDot cX5_whyNotNewDot 2 (some .int) ∈ TB := ⟨wd_3_1, wd_3_2, wd_1_6, wd_3_3⟩
theorem mm_X5_whyNotNewHead : Cond.instanceMethod yX5_whyNotNewHead ∈ TB ∧ Cond.selects RX5 yX5_whyNotNewHead yX5_whyNotNewHead ∈ TB ∧ Cond.initialized RX5 ∈ TB ∧ Cond.code yX5_whyNotNewHead cX5_whyNotNewHead 2 (some .int) ∈ TB := ⟨wd_2_120, wd_2_121, wd_1_6, wd_2_122⟩
theorem mm_X5_whyNotNewLabel : Cond.instanceMethod yX5_whyNotNewLabel ∈ TB ∧ Cond.selects RX5 yX5_whyNotNewLabel yX5_whyNotNewLabel ∈ TB ∧ Cond.initialized RX5 ∈ TB ∧ Cond.code yX5_whyNotNewLabel cX5_whyNotNewLabel 3 (some .int) ∈ TB := ⟨wd_2_124, wd_2_125, wd_1_6, wd_2_126⟩
theorem mm_X5_whyNotPair : Cond.instanceMethod yX5_whyNotPair ∈ TB ∧ Cond.selects RX5 yX5_whyNotPair yX5_whyNotPair ∈ TB ∧ Cond.initialized RX5 ∈ TB ∧ Cond.code yX5_whyNotPair cX5_whyNotPair 3 (some .int) ∈ TB := ⟨wd_2_190, wd_2_191, wd_1_6, wd_2_192⟩
theorem mm_X5_whyNotPassLines : Cond.instanceMethod yX5_whyNotPassLines ∈ TB ∧ Cond.selects RX5 yX5_whyNotPassLines yX5_whyNotPassLines ∈ TB ∧ Cond.initialized RX5 ∈ TB ∧ Cond.code yX5_whyNotPassLines cX5_whyNotPassLines 2 (some .int) ∈ TB := ⟨wd_2_237, wd_2_238, wd_1_6, wd_2_239⟩
theorem mm_X5_whyNotPrintAt : Cond.instanceMethod yX5_whyNotPrintAt ∈ TB ∧ Cond.selects RX5 yX5_whyNotPrintAt yX5_whyNotPrintAt ∈ TB ∧ Cond.initialized RX5 ∈ TB ∧ Cond.code yX5_whyNotPrintAt cX5_whyNotPrintAt 5 (some .int) ∈ TB := ⟨wd_2_164, wd_2_165, wd_1_6, wd_2_166⟩
theorem mm_X5_whyNotPrintAtBest : Cond.instanceMethod yX5_whyNotPrintAtBest ∈ TB ∧ Cond.selects RX5 yX5_whyNotPrintAtBest yX5_whyNotPrintAtBest ∈ TB ∧ Cond.initialized RX5 ∈ TB ∧ Cond.code yX5_whyNotPrintAtBest cX5_whyNotPrintAtBest 3 (some .int) ∈ TB := ⟨wd_2_186, wd_2_187, wd_1_6, wd_2_188⟩
theorem mm_X7_addCustomer : Cond.instanceMethod yX7_addCustomer ∈ TB ∧ Cond.selects RX7 yX7_addCustomer yX7_addCustomer ∈ TB ∧ Cond.initialized RX7 ∈ TB ∧ Cond.code yX7_addCustomer cX7_addCustomer 1 (some .int) ∈ TB := ⟨wd_4_80, wd_4_81, wd_1_1, wd_4_82⟩
theorem mm_X7_addLabel : Cond.instanceMethod yX7_addLabel ∈ TB ∧ Cond.selects RX7 yX7_addLabel yX7_addLabel ∈ TB ∧ Cond.initialized RX7 ∈ TB ∧ Cond.code yX7_addLabel cX7_addLabel 3 (some .int) ∈ TB := ⟨wd_4_43, wd_4_44, wd_1_1, wd_4_45⟩
theorem mm_X7_begin : Cond.instanceMethod yX7_begin ∈ TB ∧ Cond.selects RX7 yX7_begin yX7_begin ∈ TB ∧ Cond.initialized RX7 ∈ TB ∧ Cond.code yX7_begin cX7_begin 2 (some .int) ∈ TB := ⟨wd_4_24, wd_4_25, wd_1_1, wd_4_26⟩
theorem mm_X7_bestOffset : Cond.instanceMethod yX7_bestOffset ∈ TB ∧ Cond.selects RX7 yX7_bestOffset yX7_bestOffset ∈ TB ∧ Cond.initialized RX7 ∈ TB ∧ Cond.code yX7_bestOffset cX7_bestOffset 3 (some .int) ∈ TB := ⟨wd_4_200, wd_4_201, wd_1_1, wd_4_202⟩
theorem mm_X7_cool : Cond.instanceMethod yX7_cool ∈ TB ∧ Cond.selects RX7 yX7_cool yX7_cool ∈ TB ∧ Cond.initialized RX7 ∈ TB ∧ Cond.code yX7_cool cX7_cool 2 (some .int) ∈ TB := ⟨wd_4_71, wd_4_72, wd_1_1, wd_4_73⟩
theorem mm_X7_customer : Cond.instanceMethod yX7_customer ∈ TB ∧ Cond.selects RX7 yX7_customer yX7_customer ∈ TB ∧ Cond.initialized RX7 ∈ TB ∧ Cond.code yX7_customer cX7_customer 3 (some .int) ∈ TB := ⟨wd_4_160, wd_4_161, wd_1_1, wd_4_162⟩
theorem mm_X7_dot : Cond.instanceMethod yX7_dot ∈ TB ∧ Cond.selects RX7 yX7_dot yX7_dot ∈ TB ∧ Cond.initialized RX7 ∈ TB ∧ Cond.code yX7_dot cX7_dot 3 (some .int) ∈ TB := ⟨wd_4_131, wd_4_132, wd_1_1, wd_4_133⟩
theorem mm_X7_endRent : Cond.instanceMethod yX7_endRent ∈ TB ∧ Cond.selects RX7 yX7_endRent yX7_endRent ∈ TB ∧ Cond.initialized RX7 ∈ TB ∧ Cond.code yX7_endRent cX7_endRent 2 (some .int) ∈ TB := ⟨wd_4_98, wd_4_99, wd_1_1, wd_4_100⟩
theorem mm_X7_label : Cond.instanceMethod yX7_label ∈ TB ∧ Cond.selects RX7 yX7_label yX7_label ∈ TB ∧ Cond.initialized RX7 ∈ TB ∧ Cond.code yX7_label cX7_label 3 (some .int) ∈ TB := ⟨wd_4_142, wd_4_143, wd_1_1, wd_4_144⟩
theorem mm_X7_mix : Cond.static yX7_mix ∈ TB ∧ Cond.initialized yX7_mix.cls ∈ TB ∧ Cond.code yX7_mix cX7_mix 4 (some .long) ∈ TB := ⟨wd_3_96, wd_1_1, wd_3_97⟩
theorem mm_X7_mixCustomers : Cond.instanceMethod yX7_mixCustomers ∈ TB ∧ Cond.selects RX7 yX7_mixCustomers yX7_mixCustomers ∈ TB ∧ Cond.initialized RX7 ∈ TB ∧ Cond.code yX7_mixCustomers cX7_mixCustomers 7 (some .long) ∈ TB := ⟨wd_4_11, wp_2_4, wd_1_1, wd_4_12⟩
theorem mm_X7_mixDots : Cond.instanceMethod yX7_mixDots ∈ TB ∧ Cond.selects RX7 yX7_mixDots yX7_mixDots ∈ TB ∧ Cond.initialized RX7 ∈ TB ∧ Cond.code yX7_mixDots cX7_mixDots 7 (some .long) ∈ TB := ⟨wd_3_224, wp_2_1, wd_1_1, wd_3_225⟩
theorem mm_X7_mixLabels : Cond.instanceMethod yX7_mixLabels ∈ TB ∧ Cond.selects RX7 yX7_mixLabels yX7_mixLabels ∈ TB ∧ Cond.initialized RX7 ∈ TB ∧ Cond.code yX7_mixLabels cX7_mixLabels 8 (some .long) ∈ TB := ⟨wd_3_237, wp_2_3, wd_1_1, wd_3_238⟩
theorem mm_X7_mostWorn : Cond.instanceMethod yX7_mostWorn ∈ TB ∧ Cond.selects RX7 yX7_mostWorn yX7_mostWorn ∈ TB ∧ Cond.initialized RX7 ∈ TB ∧ Cond.code yX7_mostWorn cX7_mostWorn 1 (some .int) ∈ TB := ⟨wd_1_214, wd_1_215, wd_1_1, wd_1_216⟩
theorem mm_X7_price : Cond.instanceMethod yX7_price ∈ TB ∧ Cond.selects RX7 yX7_price yX7_price ∈ TB ∧ Cond.initialized RX7 ∈ TB ∧ Cond.code yX7_price cX7_price 4 (some .int) ∈ TB := ⟨wd_4_184, wd_4_185, wd_1_1, wd_4_186⟩
theorem mm_X7_print : Cond.instanceMethod yX7_print ∈ TB ∧ Cond.selects RX7 yX7_print yX7_print ∈ TB ∧ Cond.initialized RX7 ∈ TB ∧ Cond.code yX7_print cX7_print 4 (some .int) ∈ TB := ⟨wd_4_113, wd_4_114, wd_1_1, wd_4_115⟩
theorem mm_X7_printBest : Cond.instanceMethod yX7_printBest ∈ TB ∧ Cond.selects RX7 yX7_printBest yX7_printBest ∈ TB ∧ Cond.initialized RX7 ∈ TB ∧ Cond.code yX7_printBest cX7_printBest 3 (some .int) ∈ TB := ⟨wd_4_122, wd_4_123, wd_1_1, wd_4_124⟩
theorem mm_X7_readableFor : Cond.instanceMethod yX7_readableFor ∈ TB ∧ Cond.selects RX7 yX7_readableFor yX7_readableFor ∈ TB ∧ Cond.initialized RX7 ∈ TB ∧ Cond.code yX7_readableFor cX7_readableFor 4 (some .int) ∈ TB := ⟨wd_4_208, wd_4_209, wd_1_1, wd_4_210⟩
theorem mm_X7_reason : Cond.instanceMethod yX7_reason ∈ TB ∧ Cond.selects RX7 yX7_reason yX7_reason ∈ TB ∧ Cond.initialized RX7 ∈ TB ∧ Cond.code yX7_reason cX7_reason 4 (some .int) ∈ TB := ⟨wd_4_175, wd_4_176, wd_1_1, wd_4_177⟩
theorem mm_X7_refuse : Cond.static yX7_refuse ∈ TB ∧ Cond.initialized yX7_refuse.cls ∈ TB ∧ Cond.code yX7_refuse cX7_refuse 1 none ∈ TB := ⟨wd_3_104, wd_1_1, wd_3_105⟩
theorem mm_X7_rent : Cond.instanceMethod yX7_rent ∈ TB ∧ Cond.selects RX7 yX7_rent yX7_rent ∈ TB ∧ Cond.initialized RX7 ∈ TB ∧ Cond.code yX7_rent cX7_rent 4 (some .int) ∈ TB := ⟨wd_4_89, wd_4_90, wd_1_1, wd_4_91⟩
theorem mm_X7_replace : Cond.instanceMethod yX7_replace ∈ TB ∧ Cond.selects RX7 yX7_replace yX7_replace ∈ TB ∧ Cond.initialized RX7 ∈ TB ∧ Cond.code yX7_replace cX7_replace 2 (some .int) ∈ TB := ⟨wd_4_62, wd_4_63, wd_1_1, wd_4_64⟩
theorem mm_X7_row : Cond.instanceMethod yX7_row ∈ TB ∧ Cond.selects RX7 yX7_row yX7_row ∈ TB ∧ Cond.initialized RX7 ∈ TB ∧ Cond.code yX7_row cX7_row 3 (some .int) ∈ TB := ⟨wd_4_153, wd_4_154, wd_1_1, wd_4_155⟩
theorem mm_X7_save : Cond.instanceMethod yX7_save ∈ TB ∧ Cond.selects RX7 yX7_save yX7_save ∈ TB ∧ Cond.initialized RX7 ∈ TB ∧ Cond.code yX7_save cX7_save 3 none ∈ TB := ⟨wd_2_85, wp_1_7, wd_1_1, wd_2_86⟩
theorem mm_X7_set : Cond.instanceMethod yX7_set ∈ TB ∧ Cond.selects RX7 yX7_set yX7_set ∈ TB ∧ Cond.initialized RX7 ∈ TB ∧ Cond.code yX7_set cX7_set 3 (some .int) ∈ TB := ⟨wd_4_33, wd_4_34, wd_1_1, wd_4_35⟩
theorem mm_X7_setRow : Cond.instanceMethod yX7_setRow ∈ TB ∧ Cond.selects RX7 yX7_setRow yX7_setRow ∈ TB ∧ Cond.initialized RX7 ∈ TB ∧ Cond.code yX7_setRow cX7_setRow 4 (some .int) ∈ TB := ⟨wd_4_53, wd_4_54, wd_1_1, wd_4_55⟩
theorem mm_X7_type : Cond.instanceMethod yX7_type ∈ TB ∧ Cond.selects RX7 yX7_type yX7_type ∈ TB ∧ Cond.initialized RX7 ∈ TB ∧ Cond.code yX7_type cX7_type 2 (some .int) ∈ TB := ⟨wd_4_219, wd_4_220, wd_1_1, wd_4_221⟩
theorem mm_X7_undo : Cond.instanceMethod yX7_undo ∈ TB ∧ Cond.selects RX7 yX7_undo yX7_undo ∈ TB ∧ Cond.initialized RX7 ∈ TB ∧ Cond.code yX7_undo cX7_undo 1 (some .int) ∈ TB := ⟨wd_4_234, wd_4_235, wd_1_1, wd_4_236⟩
theorem mm_X7_unreadable : Cond.instanceMethod yX7_unreadable ∈ TB ∧ Cond.selects RX7 yX7_unreadable yX7_unreadable ∈ TB ∧ Cond.initialized RX7 ∈ TB ∧ Cond.code yX7_unreadable cX7_unreadable 4 (some .int) ∈ TB := ⟨wd_4_192, wd_4_193, wd_1_1, wd_4_194⟩
theorem mm_X7_whole : Cond.instanceMethod yX7_whole ∈ TB ∧ Cond.selects RX7 yX7_whole yX7_whole ∈ TB ∧ Cond.initialized RX7 ∈ TB ∧ Cond.code yX7_whole cX7_whole 2 (some .int) ∈ TB := ⟨wd_3_100, wd_3_101, wd_1_1, wd_3_102⟩
theorem mm_X8_addCustomer : Cond.instanceMethod yX8_addCustomer ∈ TB ∧ Cond.selects RX8 yX8_addCustomer yX8_addCustomer ∈ TB ∧ Cond.initialized RX8 ∈ TB ∧ Cond.code yX8_addCustomer cX8_addCustomer 3 (some .int) ∈ TB := ⟨wd_5_109, wd_5_110, wd_1_10, wd_5_111⟩
theorem mm_X8_addLabel : Cond.instanceMethod yX8_addLabel ∈ TB ∧ Cond.selects RX8 yX8_addLabel yX8_addLabel ∈ TB ∧ Cond.initialized RX8 ∈ TB ∧ Cond.code yX8_addLabel cX8_addLabel 5 (some .int) ∈ TB := ⟨wd_5_78, wd_5_79, wd_1_10, wd_5_80⟩
theorem mm_X8_badOf : Cond.instanceMethod yX8_badOf ∈ TB ∧ Cond.selects RX8 yX8_badOf yX8_badOf ∈ TB ∧ Cond.initialized RX8 ∈ TB ∧ Cond.code yX8_badOf cX8_badOf 3 (some .int) ∈ TB := ⟨wd_5_187, wp_3_8, wd_1_10, wd_5_188⟩
theorem mm_X8_begin : Cond.instanceMethod yX8_begin ∈ TB ∧ Cond.selects RX8 yX8_begin yX8_begin ∈ TB ∧ Cond.initialized RX8 ∈ TB ∧ Cond.code yX8_begin cX8_begin 4 (some .int) ∈ TB := ⟨wd_5_42, wd_5_43, wd_1_10, wd_5_44⟩
theorem mm_X8_best : Cond.instanceMethod yX8_best ∈ TB ∧ Cond.selects RX8 yX8_best yX8_best ∈ TB ∧ Cond.initialized RX8 ∈ TB ∧ Cond.code yX8_best cX8_best 10 (some .int) ∈ TB := ⟨wd_5_183, wp_3_7, wd_1_10, wd_5_184⟩
theorem mm_X8_blacks : Cond.instanceMethod yX8_blacks ∈ TB ∧ Cond.selects RX8 yX8_blacks yX8_blacks ∈ TB ∧ Cond.initialized RX8 ∈ TB ∧ Cond.code yX8_blacks cX8_blacks 4 (some .int) ∈ TB := ⟨wd_5_154, wp_3_3, wd_1_10, wd_5_155⟩
theorem mm_X8_burns : Cond.static yX8_burns ∈ TB ∧ Cond.initialized yX8_burns.cls ∈ TB ∧ Cond.code yX8_burns cX8_burns 7 none ∈ TB := ⟨wd_5_175, wd_1_10, wd_5_176⟩
theorem mm_X8_code : Cond.static yX8_code ∈ TB ∧ Cond.initialized yX8_code.cls ∈ TB ∧ Cond.code yX8_code cX8_code 10 (some .long) ∈ TB := ⟨wd_6_59, wd_1_10, wd_6_60⟩
theorem mm_X8_commandOf : Cond.static yX8_commandOf ∈ TB ∧ Cond.initialized yX8_commandOf.cls ∈ TB ∧ Cond.code yX8_commandOf cX8_commandOf 2 (some .int) ∈ TB := ⟨wd_6_56, wd_1_10, wd_6_57⟩
theorem mm_X8_cool : Cond.instanceMethod yX8_cool ∈ TB ∧ Cond.selects RX8 yX8_cool yX8_cool ∈ TB ∧ Cond.initialized RX8 ∈ TB ∧ Cond.code yX8_cool cX8_cool 3 (some .int) ∈ TB := ⟨wd_5_102, wd_5_103, wd_1_10, wd_5_104⟩
theorem mm_X8_cools : Cond.static yX8_cools ∈ TB ∧ Cond.initialized yX8_cools.cls ∈ TB ∧ Cond.code yX8_cools cX8_cools 3 none ∈ TB := ⟨wd_5_106, wd_1_10, wd_5_107⟩
theorem mm_X8_copies : Cond.instanceMethod yX8_copies ∈ TB ∧ Cond.selects RX8 yX8_copies yX8_copies ∈ TB ∧ Cond.initialized RX8 ∈ TB ∧ Cond.code yX8_copies cX8_copies 2 none ∈ TB := ⟨wd_5_191, wp_3_9, wd_1_10, wd_5_192⟩
theorem mm_X8_customerOf : Cond.instanceMethod yX8_customerOf ∈ TB ∧ Cond.selects RX8 yX8_customerOf yX8_customerOf ∈ TB ∧ Cond.initialized RX8 ∈ TB ∧ Cond.code yX8_customerOf cX8_customerOf 3 (some .int) ∈ TB := ⟨wd_5_130, wp_2_15, wd_1_10, wd_5_131⟩
theorem mm_X8_does : Cond.instanceMethod yX8_does ∈ TB ∧ Cond.selects RX8 yX8_does yX8_does ∈ TB ∧ Cond.initialized RX8 ∈ TB ∧ Cond.code yX8_does cX8_does 1 (some .int) ∈ TB := ⟨wd_6_70, wp_4_6, wd_1_10, wd_6_71⟩
theorem mm_X8_dotOf : Cond.static yX8_dotOf ∈ TB ∧ Cond.initialized yX8_dotOf.cls ∈ TB ∧ Cond.code yX8_dotOf cX8_dotOf 3 (some .int) ∈ TB := ⟨wd_5_61, wd_1_10, wd_5_62⟩
theorem mm_X8_earned : Cond.instanceMethod yX8_earned ∈ TB ∧ Cond.selects RX8 yX8_earned yX8_earned ∈ TB ∧ Cond.initialized RX8 ∈ TB ∧ Cond.code yX8_earned cX8_earned 3 (some .int) ∈ TB := ⟨wd_5_231, wp_3_14, wd_1_10, wd_5_232⟩
theorem mm_X8_empties : Cond.instanceMethod yX8_empties ∈ TB ∧ Cond.selects RX8 yX8_empties yX8_empties ∈ TB ∧ Cond.initialized RX8 ∈ TB ∧ Cond.code yX8_empties cX8_empties 4 (some .int) ∈ TB := ⟨wd_5_211, wp_3_12, wd_1_10, wd_5_212⟩
theorem mm_X8_fade : Cond.static yX8_fade ∈ TB ∧ Cond.initialized yX8_fade.cls ∈ TB ∧ Cond.code yX8_fade cX8_fade 3 (some .int) ∈ TB := ⟨wd_5_172, wd_1_10, wd_5_173⟩
theorem mm_X8_fault : Cond.instanceMethod yX8_fault ∈ TB ∧ Cond.selects RX8 yX8_fault yX8_fault ∈ TB ∧ Cond.initialized RX8 ∈ TB ∧ Cond.code yX8_fault cX8_fault 2 (some .int) ∈ TB := ⟨wd_6_35, wp_4_0, wd_1_10, wd_6_36⟩
theorem mm_X8_frees : Cond.instanceMethod yX8_frees ∈ TB ∧ Cond.selects RX8 yX8_frees yX8_frees ∈ TB ∧ Cond.initialized RX8 ∈ TB ∧ Cond.code yX8_frees cX8_frees 2 none ∈ TB := ⟨wd_5_65, wp_2_8, wd_1_10, wd_5_66⟩
theorem mm_X8_in : Cond.static yX8_in ∈ TB ∧ Cond.initialized yX8_in.cls ∈ TB ∧ Cond.code yX8_in cX8_in 3 (some .boolean) ∈ TB := ⟨wd_5_46, wd_1_10, wd_5_47⟩
theorem mm_X8_isAt : Cond.instanceMethod yX8_isAt ∈ TB ∧ Cond.selects RX8 yX8_isAt yX8_isAt ∈ TB ∧ Cond.initialized RX8 ∈ TB ∧ Cond.code yX8_isAt cX8_isAt 3 (some .boolean) ∈ TB := ⟨wd_6_43, wp_4_2, wd_1_10, wd_6_44⟩
theorem mm_X8_isCustomer : Cond.instanceMethod yX8_isCustomer ∈ TB ∧ Cond.selects RX8 yX8_isCustomer yX8_isCustomer ∈ TB ∧ Cond.initialized RX8 ∈ TB ∧ Cond.code yX8_isCustomer cX8_isCustomer 2 (some .boolean) ∈ TB := ⟨wd_5_118, wp_2_12, wd_1_10, wd_5_119⟩
theorem mm_X8_isDot : Cond.instanceMethod yX8_isDot ∈ TB ∧ Cond.selects RX8 yX8_isDot yX8_isDot ∈ TB ∧ Cond.initialized RX8 ∈ TB ∧ Cond.code yX8_isDot cX8_isDot 2 (some .boolean) ∈ TB := ⟨wd_5_99, wp_2_11, wd_1_10, wd_5_100⟩
theorem mm_X8_isLabel : Cond.instanceMethod yX8_isLabel ∈ TB ∧ Cond.selects RX8 yX8_isLabel yX8_isLabel ∈ TB ∧ Cond.initialized RX8 ∈ TB ∧ Cond.code yX8_isLabel cX8_isLabel 2 (some .boolean) ∈ TB := ⟨wd_5_87, wp_2_9, wd_1_10, wd_5_88⟩
theorem mm_X8_isTaken : Cond.instanceMethod yX8_isTaken ∈ TB ∧ Cond.selects RX8 yX8_isTaken yX8_isTaken ∈ TB ∧ Cond.initialized RX8 ∈ TB ∧ Cond.code yX8_isTaken cX8_isTaken 6 (some .boolean) ∈ TB := ⟨wd_5_122, wp_2_13, wd_1_10, wd_5_123⟩
theorem mm_X8_labelOf : Cond.instanceMethod yX8_labelOf ∈ TB ∧ Cond.selects RX8 yX8_labelOf yX8_labelOf ∈ TB ∧ Cond.initialized RX8 ∈ TB ∧ Cond.code yX8_labelOf cX8_labelOf 3 (some .int) ∈ TB := ⟨wd_5_91, wp_2_10, wd_1_10, wd_5_92⟩
theorem mm_X8_least : Cond.static yX8_least ∈ TB ∧ Cond.initialized yX8_least.cls ∈ TB ∧ Cond.code yX8_least cX8_least 1 (some .int) ∈ TB := ⟨wd_5_72, wd_1_10, wd_5_73⟩
theorem mm_X8_most : Cond.static yX8_most ∈ TB ∧ Cond.initialized yX8_most.cls ∈ TB ∧ Cond.code yX8_most cX8_most 1 (some .int) ∈ TB := ⟨wd_5_75, wd_1_10, wd_5_76⟩
theorem mm_X8_number : Cond.instanceMethod yX8_number ∈ TB ∧ Cond.selects RX8 yX8_number yX8_number ∈ TB ∧ Cond.initialized RX8 ∈ TB ∧ Cond.code yX8_number cX8_number 3 (some .boolean) ∈ TB := ⟨wd_6_66, wp_4_5, wd_1_10, wd_6_67⟩
theorem mm_X8_numbersOf : Cond.static yX8_numbersOf ∈ TB ∧ Cond.initialized yX8_numbersOf.cls ∈ TB ∧ Cond.code yX8_numbersOf cX8_numbersOf 1 (some .int) ∈ TB := ⟨wd_6_62, wd_1_10, wd_6_63⟩
theorem mm_X8_ofLabel : Cond.instanceMethod yX8_ofLabel ∈ TB ∧ Cond.selects RX8 yX8_ofLabel yX8_ofLabel ∈ TB ∧ Cond.initialized RX8 ∈ TB ∧ Cond.code yX8_ofLabel cX8_ofLabel 3 (some .int) ∈ TB := ⟨wd_5_207, wp_3_11, wd_1_10, wd_5_208⟩
theorem mm_X8_ones : Cond.static yX8_ones ∈ TB ∧ Cond.initialized yX8_ones.cls ∈ TB ∧ Cond.code yX8_ones cX8_ones 3 (some .int) ∈ TB := ⟨wd_5_157, wd_1_10, wd_5_158⟩
theorem mm_X8_plays : Cond.instanceMethod yX8_plays ∈ TB ∧ Cond.selects RX8 yX8_plays yX8_plays ∈ TB ∧ Cond.initialized RX8 ∈ TB ∧ Cond.code yX8_plays cX8_plays 7 (some .int) ∈ TB := ⟨wd_5_169, wp_3_6, wd_1_10, wd_5_170⟩
theorem mm_X8_priceOf : Cond.instanceMethod yX8_priceOf ∈ TB ∧ Cond.selects RX8 yX8_priceOf yX8_priceOf ∈ TB ∧ Cond.initialized RX8 ∈ TB ∧ Cond.code yX8_priceOf cX8_priceOf 8 (some .int) ∈ TB := ⟨wd_5_165, wp_3_5, wd_1_10, wd_5_166⟩
theorem mm_X8_print : Cond.instanceMethod yX8_print ∈ TB ∧ Cond.selects RX8 yX8_print yX8_print ∈ TB ∧ Cond.initialized RX8 ∈ TB ∧ Cond.code yX8_print cX8_print 5 (some .int) ∈ TB := ⟨wd_5_141, wd_5_142, wd_1_10, wd_5_143⟩
theorem mm_X8_printBest : Cond.instanceMethod yX8_printBest ∈ TB ∧ Cond.selects RX8 yX8_printBest yX8_printBest ∈ TB ∧ Cond.initialized RX8 ∈ TB ∧ Cond.code yX8_printBest cX8_printBest 6 (some .int) ∈ TB := ⟨wd_5_178, wd_5_179, wd_1_10, wd_5_180⟩
theorem mm_X8_prints : Cond.instanceMethod yX8_prints ∈ TB ∧ Cond.selects RX8 yX8_prints yX8_prints ∈ TB ∧ Cond.initialized RX8 ∈ TB ∧ Cond.code yX8_prints cX8_prints 8 (some .int) ∈ TB := ⟨wd_5_161, wp_3_4, wd_1_10, wd_5_162⟩
theorem mm_X8_reads : Cond.instanceMethod yX8_reads ∈ TB ∧ Cond.selects RX8 yX8_reads yX8_reads ∈ TB ∧ Cond.initialized RX8 ∈ TB ∧ Cond.code yX8_reads cX8_reads 3 (some .boolean) ∈ TB := ⟨wd_6_47, wp_4_3, wd_1_10, wd_6_48⟩
theorem mm_X8_rent : Cond.instanceMethod yX8_rent ∈ TB ∧ Cond.selects RX8 yX8_rent yX8_rent ∈ TB ∧ Cond.initialized RX8 ∈ TB ∧ Cond.code yX8_rent cX8_rent 4 (some .int) ∈ TB := ⟨wd_5_113, wd_5_114, wd_1_10, wd_5_115⟩
theorem mm_X8_rented : Cond.instanceMethod yX8_rented ∈ TB ∧ Cond.selects RX8 yX8_rented yX8_rented ∈ TB ∧ Cond.initialized RX8 ∈ TB ∧ Cond.code yX8_rented cX8_rented 3 (some .int) ∈ TB := ⟨wd_5_134, wp_3_0, wd_1_10, wd_5_135⟩
theorem mm_X8_renter : Cond.instanceMethod yX8_renter ∈ TB ∧ Cond.selects RX8 yX8_renter yX8_renter ∈ TB ∧ Cond.initialized RX8 ∈ TB ∧ Cond.code yX8_renter cX8_renter 4 (some .int) ∈ TB := ⟨wd_5_126, wp_2_14, wd_1_10, wd_5_127⟩
theorem mm_X8_replace : Cond.instanceMethod yX8_replace ∈ TB ∧ Cond.selects RX8 yX8_replace yX8_replace ∈ TB ∧ Cond.initialized RX8 ∈ TB ∧ Cond.code yX8_replace cX8_replace 4 (some .int) ∈ TB := ⟨wd_5_94, wd_5_95, wd_1_10, wd_5_96⟩
theorem mm_X8_saves : Cond.instanceMethod yX8_saves ∈ TB ∧ Cond.selects RX8 yX8_saves yX8_saves ∈ TB ∧ Cond.initialized RX8 ∈ TB ∧ Cond.code yX8_saves cX8_saves 2 none ∈ TB := ⟨wd_5_54, wp_2_6, wd_1_10, wd_5_55⟩
theorem mm_X8_set : Cond.instanceMethod yX8_set ∈ TB ∧ Cond.selects RX8 yX8_set yX8_set ∈ TB ∧ Cond.initialized RX8 ∈ TB ∧ Cond.code yX8_set cX8_set 4 (some .int) ∈ TB := ⟨wd_5_68, wd_5_69, wd_1_10, wd_5_70⟩
theorem mm_X8_setRow : Cond.instanceMethod yX8_setRow ∈ TB ∧ Cond.selects RX8 yX8_setRow yX8_setRow ∈ TB ∧ Cond.initialized RX8 ∈ TB ∧ Cond.code yX8_setRow cX8_setRow 5 (some .int) ∈ TB := ⟨wd_5_82, wd_5_83, wd_1_10, wd_5_84⟩
theorem mm_X8_skips : Cond.instanceMethod yX8_skips ∈ TB ∧ Cond.selects RX8 yX8_skips yX8_skips ∈ TB ∧ Cond.initialized RX8 ∈ TB ∧ Cond.code yX8_skips cX8_skips 1 none ∈ TB := ⟨wd_6_39, wp_4_1, wd_1_10, wd_6_40⟩
theorem mm_X8_sumOf : Cond.instanceMethod yX8_sumOf ∈ TB ∧ Cond.selects RX8 yX8_sumOf yX8_sumOf ∈ TB ∧ Cond.initialized RX8 ∈ TB ∧ Cond.code yX8_sumOf cX8_sumOf 4 (some .int) ∈ TB := ⟨wd_5_58, wp_2_7, wd_1_10, wd_5_59⟩
theorem mm_X8_throwsAt : Cond.instanceMethod yX8_throwsAt ∈ TB ∧ Cond.selects RX8 yX8_throwsAt yX8_throwsAt ∈ TB ∧ Cond.initialized RX8 ∈ TB ∧ Cond.code yX8_throwsAt cX8_throwsAt 2 (some .boolean) ∈ TB := ⟨wd_5_50, wp_2_5, wd_1_10, wd_5_51⟩
theorem mm_X8_valueOf : Cond.instanceMethod yX8_valueOf ∈ TB ∧ Cond.selects RX8 yX8_valueOf yX8_valueOf ∈ TB ∧ Cond.initialized RX8 ∈ TB ∧ Cond.code yX8_valueOf cX8_valueOf 3 (some .int) ∈ TB := ⟨wd_5_199, wp_3_10, wd_1_10, wd_5_200⟩
theorem mm_X8_wholeOf : Cond.instanceMethod yX8_wholeOf ∈ TB ∧ Cond.selects RX8 yX8_wholeOf yX8_wholeOf ∈ TB ∧ Cond.initialized RX8 ∈ TB ∧ Cond.code yX8_wholeOf cX8_wholeOf 2 (some .int) ∈ TB := ⟨wd_5_227, wp_3_13, wd_1_10, wd_5_228⟩
theorem mm_X8_whyNot : Cond.instanceMethod yX8_whyNot ∈ TB ∧ Cond.selects RX8 yX8_whyNot yX8_whyNot ∈ TB ∧ Cond.initialized RX8 ∈ TB ∧ Cond.code yX8_whyNot cX8_whyNot 5 (some .int) ∈ TB := ⟨wd_5_150, wp_3_2, wd_1_10, wd_5_151⟩
theorem mm_X8_wordOf : Cond.instanceMethod yX8_wordOf ∈ TB ∧ Cond.selects RX8 yX8_wordOf yX8_wordOf ∈ TB ∧ Cond.initialized RX8 ∈ TB ∧ Cond.code yX8_wordOf cX8_wordOf 6 (some .long) ∈ TB := ⟨wd_6_51, wp_4_4, wd_1_10, wd_6_52⟩
theorem mm_X8_worn : Cond.instanceMethod yX8_worn ∈ TB ∧ Cond.selects RX8 yX8_worn yX8_worn ∈ TB ∧ Cond.initialized RX8 ∈ TB ∧ Cond.code yX8_worn cX8_worn 3 (some .int) ∈ TB := ⟨wd_6_19, wp_3_15, wd_1_10, wd_6_20⟩
theorem mm_X8_wrong : Cond.instanceMethod yX8_wrong ∈ TB ∧ Cond.selects RX8 yX8_wrong yX8_wrong ∈ TB ∧ Cond.initialized RX8 ∈ TB ∧ Cond.code yX8_wrong cX8_wrong 4 (some .int) ∈ TB := ⟨wd_5_146, wp_3_1, wd_1_10, wd_5_147⟩
