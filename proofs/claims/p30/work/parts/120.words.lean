/-! words for the law of its own methods -/
section LawSW
theorem goodSW {own : String} {index : Nat} {y : MethodName} {bytes : ByteArray} {maxL : Nat} {rt : Option FieldType} {hh : List (Nat × Nat × Nat × Nat)} (m1 : Cond.methodLink own index y ∈ TB) (m2 : Cond.static y ∈ TB) (m4 : Cond.initialized y.cls ∈ TB) (m5 : Cond.codeWith y bytes maxL rt hh ∈ TB) : GoodIn TB (va_wsS own index y (Cond.codeWith y bytes maxL rt hh :: TB)) := fun w h => by
  unfold va_wsS at h
  simp only [List.cons_append, List.nil_append, List.mem_cons] at h
  rcases h with rfl | rfl | rfl | rfl | h
  · exact good_TB m1
  · exact good_TB m2
  · exact good_TB m4
  · exact good_TB m5
  · exact good_TB h
variable {l : Launch} {Z : ZZ} {X : XX} {cc : ByteArray} {own : String} {nL : Nat} {ret0 : Option FieldType} {d mc ms : Nat} {o : Option Value} {μ μ' : Mm} {cells slots pc : Nat} {lv lv' : List (Nat × Value)} {rest : List Value}
theorem g_callSW (C : Cx l Z false X cc own nL ret0) (E : xR X = rmm d mc ms) {y : MethodName} {bytes : ByteArray} {maxL d1 mc1 ms1 index : Nat} {rt : Option FieldType} {hh : List (Nat × Nat × Nat × Nat)} {As st0 : List Value} (n : Nat) (hM : CtW l Z y bytes maxL rt hh d1 mc1 ms1 As μ o Z μ') (m1 : Cond.methodLink own index y ∈ TB) (mm : Cond.static y ∈ TB ∧ Cond.initialized y.cls ∈ TB ∧ Cond.codeWith y bytes maxL rt hh ∈ TB)
    (hd1 : y.cls ≠ "java/lang/invoke/MethodHandle" ∧ y.cls ≠ "java/lang/invoke/VarHandle" ∧ (parseMethodDescriptor y.desc).map (fun d => d.parameters.length) = some n) (hn : As.length = n) (hR : d1 + 1 ≤ d ∧ maxL + 19 + 40 * d1 ≤ 40 * d) (hst : st0 = As.reverse ++ rest)
    (hro : (rest.map fun v => v.category).sum ≤ 8) (hcs : cells + mc1 ≤ mc ∧ slots + ms1 ≤ ms) (hdg : decode cc pc = .ok (.invokestatic index, 3)) (k : G Z X nL (cells + mc1) (slots + ms1) (pc + 3) lv (o.toList ++ rest) μ') : G Z X nL cells slots pc lv st0 μ := by
  subst hst
  intro H locs ls hW hS h
  have hM' : Met (xl X) y (Cond.codeWith y bytes maxL rt hh :: TB) (rmm d1 mc1 ms1) (va_Pc As (Pc0 Z false μ)) (Qc0 Z o μ') mc1 ms1 (AA Z) := by rw [C.ln]; exact hM
  refine ga_call (μ := μ) C hW hS h (vx_runSW (As := As) (rest := rest) C.fix hM' (vx_cwSW n C.ts (goodSW m1 mm.1 mm.2.1 mm.2.2) rfl rfl rfl hd1 (by rw [E]; exact ⟨hR.1, by show 8 + (maxL + 11) + (40 * d1 + 4) ≤ 40 * d + 4; omega⟩)) ⟨pc0_blind, pc0_at C hW hS⟩ rfl hn h.1 rfl (lv_room hro) hdg (by rw [E]; exact hcs)) k
end LawSW
set_option maxRecDepth 100000 in
theorem wd_1_0 : Cond.initialized RL ∈ TB := tb1 (List.mem_of_getElem? (i := 0) rfl) rfl
set_option maxRecDepth 100000 in
theorem wd_1_204 : Cond.methodLink RL 117 yL_low ∈ TB := tb1 (List.mem_of_getElem? (i := 204) rfl) rfl
set_option maxRecDepth 100000 in
theorem wd_1_205 : Cond.static yL_low ∈ TB := tb1 (List.mem_of_getElem? (i := 205) rfl) rfl
set_option maxRecDepth 100000 in
theorem wd_1_206 : Cond.code yL_low cL_low 2 (some .int) ∈ TB := tb1 (List.mem_of_getElem? (i := 206) rfl) rfl
set_option maxRecDepth 100000 in
theorem wd_1_207 : Cond.constant RL 8 (2147483647) ∈ TB := tb1 (List.mem_of_getElem? (i := 207) rfl) rfl
set_option maxRecDepth 100000 in
theorem wd_1_211 : Cond.constant RL 116 (10000000) ∈ TB := tb1 (List.mem_of_getElem? (i := 211) rfl) rfl
set_option maxRecDepth 100000 in
theorem wd_1_212 : Cond.methodLink RL 120 yL_begins ∈ TB := tb1 (List.mem_of_getElem? (i := 212) rfl) rfl
set_option maxRecDepth 100000 in
theorem wd_1_213 : Cond.static yL_begins ∈ TB := tb1 (List.mem_of_getElem? (i := 213) rfl) rfl
set_option maxRecDepth 100000 in
theorem wd_2_134 : Cond.methodLink RL 123 yL_sets ∈ TB := tb2 (List.mem_of_getElem? (i := 134) rfl) rfl
set_option maxRecDepth 100000 in
theorem wd_2_135 : Cond.static yL_sets ∈ TB := tb2 (List.mem_of_getElem? (i := 135) rfl) rfl
set_option maxRecDepth 100000 in
theorem wd_2_153 : Cond.methodLink RL 126 yL_labels ∈ TB := tb2 (List.mem_of_getElem? (i := 153) rfl) rfl
set_option maxRecDepth 100000 in
theorem wd_2_154 : Cond.static yL_labels ∈ TB := tb2 (List.mem_of_getElem? (i := 154) rfl) rfl
set_option maxRecDepth 100000 in
theorem wd_2_170 : Cond.methodLink RL 129 yL_rows ∈ TB := tb2 (List.mem_of_getElem? (i := 170) rfl) rfl
set_option maxRecDepth 100000 in
theorem wd_2_171 : Cond.static yL_rows ∈ TB := tb2 (List.mem_of_getElem? (i := 171) rfl) rfl
set_option maxRecDepth 100000 in
theorem wd_2_195 : Cond.methodLink RL 132 yL_renews ∈ TB := tb2 (List.mem_of_getElem? (i := 195) rfl) rfl
set_option maxRecDepth 100000 in
theorem wd_2_196 : Cond.static yL_renews ∈ TB := tb2 (List.mem_of_getElem? (i := 196) rfl) rfl
set_option maxRecDepth 100000 in
theorem wd_2_215 : Cond.methodLink RL 135 yL_cools ∈ TB := tb2 (List.mem_of_getElem? (i := 215) rfl) rfl
set_option maxRecDepth 100000 in
theorem wd_2_216 : Cond.static yL_cools ∈ TB := tb2 (List.mem_of_getElem? (i := 216) rfl) rfl
set_option maxRecDepth 100000 in
theorem wd_2_238 : Cond.methodLink RL 138 yL_customers ∈ TB := tb2 (List.mem_of_getElem? (i := 238) rfl) rfl
set_option maxRecDepth 100000 in
theorem wd_2_239 : Cond.static yL_customers ∈ TB := tb2 (List.mem_of_getElem? (i := 239) rfl) rfl
set_option maxRecDepth 100000 in
theorem wd_3_13 : Cond.methodLink RL 142 yL_lets ∈ TB := tb3 (List.mem_of_getElem? (i := 13) rfl) rfl
set_option maxRecDepth 100000 in
theorem wd_3_136 : Cond.methodLink RL 105 yL_bests ∈ TB := tb3 (List.mem_of_getElem? (i := 136) rfl) rfl
set_option maxRecDepth 100000 in
theorem wd_3_137 : Cond.static yL_bests ∈ TB := tb3 (List.mem_of_getElem? (i := 137) rfl) rfl
set_option maxRecDepth 100000 in
theorem wd_3_14 : Cond.static yL_lets ∈ TB := tb3 (List.mem_of_getElem? (i := 14) rfl) rfl
set_option maxRecDepth 100000 in
theorem wd_3_15 : Cond.code yL_lets cL_lets 10 (some .boolean) ∈ TB := tb3 (List.mem_of_getElem? (i := 15) rfl) rfl
set_option maxRecDepth 100000 in
theorem wd_3_16 : Cond.methodLink RL 90 yL_ends ∈ TB := tb3 (List.mem_of_getElem? (i := 16) rfl) rfl
set_option maxRecDepth 100000 in
theorem wd_3_168 : Cond.methodLink RL 109 yL_best ∈ TB := tb3 (List.mem_of_getElem? (i := 168) rfl) rfl
set_option maxRecDepth 100000 in
theorem wd_3_169 : Cond.static yL_best ∈ TB := tb3 (List.mem_of_getElem? (i := 169) rfl) rfl
set_option maxRecDepth 100000 in
theorem wd_3_17 : Cond.static yL_ends ∈ TB := tb3 (List.mem_of_getElem? (i := 17) rfl) rfl
set_option maxRecDepth 100000 in
theorem wd_3_170 : Cond.code yL_best cL_best 13 (some .int) ∈ TB := tb3 (List.mem_of_getElem? (i := 170) rfl) rfl
set_option maxRecDepth 100000 in
theorem wd_3_171 : Cond.methodLink RL 78 yL_why ∈ TB := tb3 (List.mem_of_getElem? (i := 171) rfl) rfl
set_option maxRecDepth 100000 in
theorem wd_3_172 : Cond.static yL_why ∈ TB := tb3 (List.mem_of_getElem? (i := 172) rfl) rfl
set_option maxRecDepth 100000 in
theorem wd_3_173 : Cond.code yL_why cL_why 8 (some .int) ∈ TB := tb3 (List.mem_of_getElem? (i := 173) rfl) rfl
set_option maxRecDepth 100000 in
theorem wd_3_174 : Cond.methodLink RL 63 yL_blacks ∈ TB := tb3 (List.mem_of_getElem? (i := 174) rfl) rfl
set_option maxRecDepth 100000 in
theorem wd_3_175 : Cond.static yL_blacks ∈ TB := tb3 (List.mem_of_getElem? (i := 175) rfl) rfl
set_option maxRecDepth 100000 in
theorem wd_3_176 : Cond.code yL_blacks cL_blacks 4 (some .int) ∈ TB := tb3 (List.mem_of_getElem? (i := 176) rfl) rfl
set_option maxRecDepth 100000 in
theorem wd_3_177 : Cond.methodLink RL 82 yL_unread ∈ TB := tb3 (List.mem_of_getElem? (i := 177) rfl) rfl
set_option maxRecDepth 100000 in
theorem wd_3_178 : Cond.static yL_unread ∈ TB := tb3 (List.mem_of_getElem? (i := 178) rfl) rfl
set_option maxRecDepth 100000 in
theorem wd_3_179 : Cond.code yL_unread cL_unread 9 (some .int) ∈ TB := tb3 (List.mem_of_getElem? (i := 179) rfl) rfl
set_option maxRecDepth 100000 in
theorem wd_3_180 : Cond.methodLink RL 70 yL_copies ∈ TB := tb3 (List.mem_of_getElem? (i := 180) rfl) rfl
set_option maxRecDepth 100000 in
theorem wd_3_181 : Cond.static yL_copies ∈ TB := tb3 (List.mem_of_getElem? (i := 181) rfl) rfl
set_option maxRecDepth 100000 in
theorem wd_3_182 : Cond.code yL_copies cL_copies 3 none ∈ TB := tb3 (List.mem_of_getElem? (i := 182) rfl) rfl
set_option maxRecDepth 100000 in
theorem wd_3_183 : Cond.methodLink RL 74 yL_lines ∈ TB := tb3 (List.mem_of_getElem? (i := 183) rfl) rfl
set_option maxRecDepth 100000 in
theorem wd_3_184 : Cond.static yL_lines ∈ TB := tb3 (List.mem_of_getElem? (i := 184) rfl) rfl
set_option maxRecDepth 100000 in
theorem wd_3_185 : Cond.code yL_lines cL_lines 15 (some .int) ∈ TB := tb3 (List.mem_of_getElem? (i := 185) rfl) rfl
set_option maxRecDepth 100000 in
theorem wd_3_186 : Cond.methodLink RL 67 yL_fade ∈ TB := tb3 (List.mem_of_getElem? (i := 186) rfl) rfl
set_option maxRecDepth 100000 in
theorem wd_3_187 : Cond.static yL_fade ∈ TB := tb3 (List.mem_of_getElem? (i := 187) rfl) rfl
set_option maxRecDepth 100000 in
theorem wd_3_188 : Cond.code yL_fade cL_fade 2 (some .int) ∈ TB := tb3 (List.mem_of_getElem? (i := 188) rfl) rfl
set_option maxRecDepth 100000 in
theorem wd_3_189 : Cond.methodLink RL 86 yL_price ∈ TB := tb3 (List.mem_of_getElem? (i := 189) rfl) rfl
set_option maxRecDepth 100000 in
theorem wd_3_190 : Cond.static yL_price ∈ TB := tb3 (List.mem_of_getElem? (i := 190) rfl) rfl
set_option maxRecDepth 100000 in
theorem wd_3_191 : Cond.code yL_price cL_price 12 (some .int) ∈ TB := tb3 (List.mem_of_getElem? (i := 191) rfl) rfl
set_option maxRecDepth 100000 in
theorem wd_3_192 : Cond.methodLink RL 112 yL_printed ∈ TB := tb3 (List.mem_of_getElem? (i := 192) rfl) rfl
set_option maxRecDepth 100000 in
theorem wd_3_193 : Cond.static yL_printed ∈ TB := tb3 (List.mem_of_getElem? (i := 193) rfl) rfl
set_option maxRecDepth 100000 in
theorem wd_3_194 : Cond.code yL_printed cL_printed 12 (some .int) ∈ TB := tb3 (List.mem_of_getElem? (i := 194) rfl) rfl
set_option maxRecDepth 100000 in
theorem wd_3_195 : Cond.methodLink RL 165 yL_dotOf ∈ TB := tb3 (List.mem_of_getElem? (i := 195) rfl) rfl
set_option maxRecDepth 100000 in
theorem wd_3_196 : Cond.static yL_dotOf ∈ TB := tb3 (List.mem_of_getElem? (i := 196) rfl) rfl
set_option maxRecDepth 100000 in
theorem wd_3_215 : Cond.methodLink RL 177 yL_wholeOf ∈ TB := tb3 (List.mem_of_getElem? (i := 215) rfl) rfl
set_option maxRecDepth 100000 in
theorem wd_3_216 : Cond.static yL_wholeOf ∈ TB := tb3 (List.mem_of_getElem? (i := 216) rfl) rfl
set_option maxRecDepth 100000 in
theorem wd_3_39 : Cond.methodLink RL 94 yL_rents ∈ TB := tb3 (List.mem_of_getElem? (i := 39) rfl) rfl
set_option maxRecDepth 100000 in
theorem wd_3_40 : Cond.static yL_rents ∈ TB := tb3 (List.mem_of_getElem? (i := 40) rfl) rfl
set_option maxRecDepth 100000 in
theorem wd_3_66 : Cond.methodLink RL 57 yL_renter ∈ TB := tb3 (List.mem_of_getElem? (i := 66) rfl) rfl
set_option maxRecDepth 100000 in
theorem wd_3_67 : Cond.static yL_renter ∈ TB := tb3 (List.mem_of_getElem? (i := 67) rfl) rfl
set_option maxRecDepth 100000 in
theorem wd_3_68 : Cond.code yL_renter cL_renter 5 (some .int) ∈ TB := tb3 (List.mem_of_getElem? (i := 68) rfl) rfl
set_option maxRecDepth 100000 in
theorem wd_3_69 : Cond.methodLink RL 98 yL_rented ∈ TB := tb3 (List.mem_of_getElem? (i := 69) rfl) rfl
set_option maxRecDepth 100000 in
theorem wd_3_70 : Cond.static yL_rented ∈ TB := tb3 (List.mem_of_getElem? (i := 70) rfl) rfl
set_option maxRecDepth 100000 in
theorem wd_3_71 : Cond.code yL_rented cL_rented 4 (some .int) ∈ TB := tb3 (List.mem_of_getElem? (i := 71) rfl) rfl
set_option maxRecDepth 100000 in
theorem wd_3_72 : Cond.methodLink RL 146 yL_sells ∈ TB := tb3 (List.mem_of_getElem? (i := 72) rfl) rfl
set_option maxRecDepth 100000 in
theorem wd_3_73 : Cond.static yL_sells ∈ TB := tb3 (List.mem_of_getElem? (i := 73) rfl) rfl
set_option maxRecDepth 100000 in
theorem wd_3_74 : Cond.code yL_sells cL_sells 13 (some .boolean) ∈ TB := tb3 (List.mem_of_getElem? (i := 74) rfl) rfl
set_option maxRecDepth 100000 in
theorem wd_3_75 : Cond.methodLink RL 102 yL_prints ∈ TB := tb3 (List.mem_of_getElem? (i := 75) rfl) rfl
set_option maxRecDepth 100000 in
theorem wd_3_76 : Cond.static yL_prints ∈ TB := tb3 (List.mem_of_getElem? (i := 76) rfl) rfl
set_option maxRecDepth 100000 in
theorem wd_4_1 : Cond.methodLink RL 168 yL_rowOf ∈ TB := tb4 (List.mem_of_getElem? (i := 1) rfl) rfl
set_option maxRecDepth 100000 in
theorem wd_4_12 : Cond.methodLink RL 171 yL_labelOf ∈ TB := tb4 (List.mem_of_getElem? (i := 12) rfl) rfl
set_option maxRecDepth 100000 in
theorem wd_4_13 : Cond.static yL_labelOf ∈ TB := tb4 (List.mem_of_getElem? (i := 13) rfl) rfl
set_option maxRecDepth 100000 in
theorem wd_4_2 : Cond.static yL_rowOf ∈ TB := tb4 (List.mem_of_getElem? (i := 2) rfl) rfl
set_option maxRecDepth 100000 in
theorem wd_4_29 : Cond.methodLink RL 174 yL_customerOf ∈ TB := tb4 (List.mem_of_getElem? (i := 29) rfl) rfl
set_option maxRecDepth 100000 in
theorem wd_4_30 : Cond.static yL_customerOf ∈ TB := tb4 (List.mem_of_getElem? (i := 30) rfl) rfl
set_option maxRecDepth 100000 in
theorem wd_4_44 : Cond.methodLink RL 180 yX7_mostWorn ∈ TB := tb4 (List.mem_of_getElem? (i := 44) rfl) rfl
set_option maxRecDepth 100000 in
theorem wd_4_45 : Cond.instanceMethod yX7_mostWorn ∈ TB := tb4 (List.mem_of_getElem? (i := 45) rfl) rfl
set_option maxRecDepth 100000 in
theorem wd_4_46 : Cond.selects RX7 yX7_mostWorn yX7_mostWorn ∈ TB := tb4 (List.mem_of_getElem? (i := 46) rfl) rfl
set_option maxRecDepth 100000 in
theorem wd_4_47 : Cond.code yX7_mostWorn cX7_mostWorn 1 (some .int) ∈ TB := tb4 (List.mem_of_getElem? (i := 47) rfl) rfl
set_option maxRecDepth 100000 in
theorem mm_L_best : Cond.static yL_best ∈ TB ∧ Cond.initialized yL_best.cls ∈ TB ∧ Cond.code yL_best cL_best 13 (some .int) ∈ TB := ⟨wd_3_169, wd_1_0, wd_3_170⟩
set_option maxRecDepth 100000 in
theorem mm_L_blacks : Cond.static yL_blacks ∈ TB ∧ Cond.initialized yL_blacks.cls ∈ TB ∧ Cond.code yL_blacks cL_blacks 4 (some .int) ∈ TB := ⟨wd_3_175, wd_1_0, wd_3_176⟩
set_option maxRecDepth 100000 in
theorem mm_L_copies : Cond.static yL_copies ∈ TB ∧ Cond.initialized yL_copies.cls ∈ TB ∧ Cond.code yL_copies cL_copies 3 none ∈ TB := ⟨wd_3_181, wd_1_0, wd_3_182⟩
set_option maxRecDepth 100000 in
theorem mm_L_fade : Cond.static yL_fade ∈ TB ∧ Cond.initialized yL_fade.cls ∈ TB ∧ Cond.code yL_fade cL_fade 2 (some .int) ∈ TB := ⟨wd_3_187, wd_1_0, wd_3_188⟩
set_option maxRecDepth 100000 in
theorem mm_L_lets : Cond.static yL_lets ∈ TB ∧ Cond.initialized yL_lets.cls ∈ TB ∧ Cond.code yL_lets cL_lets 10 (some .boolean) ∈ TB := ⟨wd_3_14, wd_1_0, wd_3_15⟩
set_option maxRecDepth 100000 in
theorem mm_L_lines : Cond.static yL_lines ∈ TB ∧ Cond.initialized yL_lines.cls ∈ TB ∧ Cond.code yL_lines cL_lines 15 (some .int) ∈ TB := ⟨wd_3_184, wd_1_0, wd_3_185⟩
set_option maxRecDepth 100000 in
theorem mm_L_low : Cond.static yL_low ∈ TB ∧ Cond.initialized yL_low.cls ∈ TB ∧ Cond.code yL_low cL_low 2 (some .int) ∈ TB := ⟨wd_1_205, wd_1_0, wd_1_206⟩
set_option maxRecDepth 100000 in
theorem mm_L_price : Cond.static yL_price ∈ TB ∧ Cond.initialized yL_price.cls ∈ TB ∧ Cond.code yL_price cL_price 12 (some .int) ∈ TB := ⟨wd_3_190, wd_1_0, wd_3_191⟩
set_option maxRecDepth 100000 in
theorem mm_L_printed : Cond.static yL_printed ∈ TB ∧ Cond.initialized yL_printed.cls ∈ TB ∧ Cond.code yL_printed cL_printed 12 (some .int) ∈ TB := ⟨wd_3_193, wd_1_0, wd_3_194⟩
set_option maxRecDepth 100000 in
theorem mm_L_rented : Cond.static yL_rented ∈ TB ∧ Cond.initialized yL_rented.cls ∈ TB ∧ Cond.code yL_rented cL_rented 4 (some .int) ∈ TB := ⟨wd_3_70, wd_1_0, wd_3_71⟩
set_option maxRecDepth 100000 in
theorem mm_L_renter : Cond.static yL_renter ∈ TB ∧ Cond.initialized yL_renter.cls ∈ TB ∧ Cond.code yL_renter cL_renter 5 (some .int) ∈ TB := ⟨wd_3_67, wd_1_0, wd_3_68⟩
set_option maxRecDepth 100000 in
theorem mm_L_sells : Cond.static yL_sells ∈ TB ∧ Cond.initialized yL_sells.cls ∈ TB ∧ Cond.code yL_sells cL_sells 13 (some .boolean) ∈ TB := ⟨wd_3_73, wd_1_0, wd_3_74⟩
set_option maxRecDepth 100000 in
theorem mm_L_unread : Cond.static yL_unread ∈ TB ∧ Cond.initialized yL_unread.cls ∈ TB ∧ Cond.code yL_unread cL_unread 9 (some .int) ∈ TB := ⟨wd_3_178, wd_1_0, wd_3_179⟩
set_option maxRecDepth 100000 in
theorem mm_L_why : Cond.static yL_why ∈ TB ∧ Cond.initialized yL_why.cls ∈ TB ∧ Cond.code yL_why cL_why 8 (some .int) ∈ TB := ⟨wd_3_172, wd_1_0, wd_3_173⟩
set_option maxRecDepth 100000 in
theorem mm_X7_mostWorn : Cond.instanceMethod yX7_mostWorn ∈ TB ∧ Cond.selects RX7 yX7_mostWorn yX7_mostWorn ∈ TB ∧ Cond.initialized RX7 ∈ TB ∧ Cond.code yX7_mostWorn cX7_mostWorn 1 (some .int) ∈ TB := ⟨wd_4_45, wd_4_46, wd_1_1, wd_4_47⟩
set_option maxRecDepth 100000 in
theorem mw_L_begins : Cond.static yL_begins ∈ TB ∧ Cond.initialized yL_begins.cls ∈ TB ∧ Cond.codeWith yL_begins cL_begins 3 (some .int) [(0, 5, 6, 15)] ∈ TB := ⟨wd_1_213, wd_1_0, wd_1_214⟩
set_option maxRecDepth 100000 in
theorem mw_L_bests : Cond.static yL_bests ∈ TB ∧ Cond.initialized yL_bests.cls ∈ TB ∧ Cond.codeWith yL_bests cL_bests 4 (some .int) [(0, 6, 7, 32), (0, 6, 11, 25)] ∈ TB := ⟨wd_3_137, wd_1_0, wd_3_138⟩
set_option maxRecDepth 100000 in
theorem mw_L_cools : Cond.static yL_cools ∈ TB ∧ Cond.initialized yL_cools.cls ∈ TB ∧ Cond.codeWith yL_cools cL_cools 3 (some .int) [(0, 5, 6, 15)] ∈ TB := ⟨wd_2_216, wd_1_0, wd_2_217⟩
set_option maxRecDepth 100000 in
theorem mw_L_customerOf : Cond.static yL_customerOf ∈ TB ∧ Cond.initialized yL_customerOf.cls ∈ TB ∧ Cond.codeWith yL_customerOf cL_customerOf 4 (some .int) [(0, 6, 7, 32), (0, 6, 11, 15)] ∈ TB := ⟨wd_4_30, wd_1_0, wd_4_31⟩
set_option maxRecDepth 100000 in
theorem mw_L_customers : Cond.static yL_customers ∈ TB ∧ Cond.initialized yL_customers.cls ∈ TB ∧ Cond.codeWith yL_customers cL_customers 2 (some .int) [(0, 4, 5, 25)] ∈ TB := ⟨wd_2_239, wd_1_0, wd_3_0⟩
set_option maxRecDepth 100000 in
theorem mw_L_dotOf : Cond.static yL_dotOf ∈ TB ∧ Cond.initialized yL_dotOf.cls ∈ TB ∧ Cond.codeWith yL_dotOf cL_dotOf 4 (some .int) [(0, 6, 7, 32), (0, 6, 11, 15)] ∈ TB := ⟨wd_3_196, wd_1_0, wd_3_197⟩
set_option maxRecDepth 100000 in
theorem mw_L_ends : Cond.static yL_ends ∈ TB ∧ Cond.initialized yL_ends.cls ∈ TB ∧ Cond.codeWith yL_ends cL_ends 3 (some .int) [(0, 5, 6, 32), (0, 5, 10, 25)] ∈ TB := ⟨wd_3_17, wd_1_0, wd_3_18⟩
set_option maxRecDepth 100000 in
theorem mw_L_labelOf : Cond.static yL_labelOf ∈ TB ∧ Cond.initialized yL_labelOf.cls ∈ TB ∧ Cond.codeWith yL_labelOf cL_labelOf 4 (some .int) [(0, 6, 7, 32), (0, 6, 11, 15)] ∈ TB := ⟨wd_4_13, wd_1_0, wd_4_14⟩
set_option maxRecDepth 100000 in
theorem mw_L_labels : Cond.static yL_labels ∈ TB ∧ Cond.initialized yL_labels.cls ∈ TB ∧ Cond.codeWith yL_labels cL_labels 4 (some .int) [(0, 6, 7, 15), (0, 6, 11, 25)] ∈ TB := ⟨wd_2_154, wd_1_0, wd_2_155⟩
set_option maxRecDepth 100000 in
theorem mw_L_prints : Cond.static yL_prints ∈ TB ∧ Cond.initialized yL_prints.cls ∈ TB ∧ Cond.codeWith yL_prints cL_prints 5 (some .int) [(0, 7, 8, 32), (0, 7, 13, 15), (0, 7, 18, 25)] ∈ TB := ⟨wd_3_76, wd_1_0, wd_3_77⟩
set_option maxRecDepth 100000 in
theorem mw_L_renews : Cond.static yL_renews ∈ TB ∧ Cond.initialized yL_renews.cls ∈ TB ∧ Cond.codeWith yL_renews cL_renews 3 (some .int) [(0, 5, 6, 32)] ∈ TB := ⟨wd_2_196, wd_1_0, wd_2_197⟩
set_option maxRecDepth 100000 in
theorem mw_L_rents : Cond.static yL_rents ∈ TB ∧ Cond.initialized yL_rents.cls ∈ TB ∧ Cond.codeWith yL_rents cL_rents 5 (some .int) [(0, 7, 8, 32), (0, 7, 13, 15), (0, 7, 18, 25)] ∈ TB := ⟨wd_3_40, wd_1_0, wd_3_41⟩
set_option maxRecDepth 100000 in
theorem mw_L_rowOf : Cond.static yL_rowOf ∈ TB ∧ Cond.initialized yL_rowOf.cls ∈ TB ∧ Cond.codeWith yL_rowOf cL_rowOf 4 (some .int) [(0, 6, 7, 32), (0, 6, 11, 15)] ∈ TB := ⟨wd_4_2, wd_1_0, wd_4_3⟩
set_option maxRecDepth 100000 in
theorem mw_L_rows : Cond.static yL_rows ∈ TB ∧ Cond.initialized yL_rows.cls ∈ TB ∧ Cond.codeWith yL_rows cL_rows 5 (some .int) [(0, 7, 8, 32), (0, 7, 13, 15)] ∈ TB := ⟨wd_2_171, wd_1_0, wd_2_172⟩
set_option maxRecDepth 100000 in
theorem mw_L_sets : Cond.static yL_sets ∈ TB ∧ Cond.initialized yL_sets.cls ∈ TB ∧ Cond.codeWith yL_sets cL_sets 4 (some .int) [(0, 6, 7, 15)] ∈ TB := ⟨wd_2_135, wd_1_0, wd_2_136⟩
set_option maxRecDepth 100000 in
theorem mw_L_wholeOf : Cond.static yL_wholeOf ∈ TB ∧ Cond.initialized yL_wholeOf.cls ∈ TB ∧ Cond.codeWith yL_wholeOf cL_wholeOf 3 (some .int) [(0, 5, 6, 15)] ∈ TB := ⟨wd_3_216, wd_1_0, wd_3_217⟩
