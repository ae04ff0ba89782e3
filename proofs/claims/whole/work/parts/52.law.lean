/-! THE LAW's body: its rows, a theorem a case -/
section LawA
theorem goodSW {own : String} {index : Nat} {y : MethodName} {bytes : ByteArray} {maxL : Nat} {rt : Option FieldType} {hh : List (Nat × Nat × Nat × Nat)} (m1 : Cond.methodLink own index y ∈ TB) (m2 : Cond.static y ∈ TB) (m4 : Cond.initialized y.cls ∈ TB) (m5 : Cond.codeWith y bytes maxL rt hh ∈ TB) : GoodIn TB (va_wsS own index y (Cond.codeWith y bytes maxL rt hh :: TB)) := fun w h => by
  unfold va_wsS at h
  simp only [List.cons_append, List.nil_append, List.mem_cons] at h
  rcases h with rfl | rfl | rfl | rfl | h
  · exact good_TB m1
  · exact good_TB m2
  · exact good_TB m4
  · exact good_TB m5
  · exact good_TB h
variable {l : Launch} {Z : ZZ} {X : XX} {cc : ByteArray} {own : String} {nL : Nat} {ret0 : Option FieldType} {d mc ms : Nat} {o : Option Value} {μ μ' : Mm} {cells slots pc : Nat} {lv lv' : List (Nat × Value)} {rest : List Value}
theorem g_callSW (C : Cx l Z false X cc own nL ret0) (E : xR X = rmm d mc ms) {y : MethodName} {bytes : ByteArray} {maxL d1 mc1 ms1 index : Nat} {rt : Option FieldType} {hh : List (Nat × Nat × Nat × Nat)} {As st0 : List Value} (n : Nat) (hM : CtW l Z y bytes maxL rt hh d1 mc1 ms1 As μ o Z μ') (m1 : Cond.methodLink own index y ∈ TB) (mm : Cond.static y ∈ TB ∧ Cond.initialized y.cls ∈ TB ∧ Cond.codeWith y bytes maxL rt hh ∈ TB)
    (hd1 : y.cls ≠ "java/lang/invoke/MethodHandle" ∧ y.cls ≠ "java/lang/invoke/VarHandle" ∧ (parseMethodDescriptor y.desc).map (fun d => d.parameters.length) = some n) (hn : As.length = n) (hR : d1 + 1 ≤ d ∧ maxL + 19 + 37 * d1 ≤ 37 * d) (hst : st0 = As.reverse ++ rest)
    (hro : (rest.map fun v => v.category).sum ≤ 8) (hcs : cells + mc1 ≤ mc ∧ slots + ms1 ≤ ms) (hdg : decode cc pc = .ok (.invokestatic index, 3)) (k : G Z X nL (cells + mc1) (slots + ms1) (pc + 3) lv (o.toList ++ rest) μ') : G Z X nL cells slots pc lv st0 μ := by
  subst hst
  intro H locs ls hW hS h
  have hM' : Met (xl X) y (Cond.codeWith y bytes maxL rt hh :: TB) (rmm d1 mc1 ms1) (va_Pc As (Pc0 Z false μ)) (Qc0 Z o μ') mc1 ms1 (AA Z) := by rw [C.ln]; exact hM
  refine ga_call (μ := μ) C hW hS h (vx_runSW (As := As) (rest := rest) C.fix hM' (vx_cwSW n C.ts (goodSW m1 mm.1 mm.2.1 mm.2.2) rfl rfl rfl hd1 (by rw [E]; exact ⟨hR.1, by show 8 + (maxL + 11) + 37 * d1 ≤ 37 * d; omega⟩)) ⟨pc0_blind, pc0_at C hW hS⟩ rfl hn h.1 rfl (lv_room hro) hdg (by rw [E]; exact hcs)) k
/-- what holds of the law's frame all along -/
def LX (l : Launch) (Z : ZZ) (X : XX) (b L : Nat) (sx : Nat → Int32) : Prop := Cx l Z false X cL_law RL 7 ret ∧ xR X = rmm 12 601024 7293034 ∧ zk Z = KF ∧ l.stackTraces = false ∧ va_X b L sx (xs X) (xs X).heap ∧ b < (xs X).heap.size ∧ zb Z = (xs X).heap.size ∧ L ≤ 2048
end LawA
section LawB
variable {l : Launch} {Z : ZZ} {X : XX} {b L : Nat} {sx : Nat → Int32} {μ μ' : Mm} {cells slots pc : Nat} {lv lv' : List (Nat × Value)} {rest : List Value}
theorem g_sld (H : LX l Z X b L sx) {j : Nat} (hj : j < L) (hd : decode cL_law pc = .ok (.iaload, 1)) (k : G Z X 7 cells slots (pc + 1) lv (.int (sx j) :: rest) μ) : G Z X 7 cells slots pc lv (.int (nI j) :: .ref b :: rest) μ := fun Hp locs ls hW hS h => by
  obtain ⟨C, -, -, -, hX, hb, hz, hL⟩ := H
  have k2 := k Hp locs ls hW hS h
  have e : sx j = sx (nI j).toNatClampNeg := by rw [show (nI j).toNatClampNeg = j from ix_n (by omega)]
  rw [e] at k2
  exact va_sld C.exec C.code hX hb (show ¬ zb Z ≤ b by omega) hS (nI_in hj (by omega)) hd k2
theorem g_slen (H : LX l Z X b L sx) (hd : decode cL_law pc = .ok (.arraylength, 1)) (k : G Z X 7 cells slots (pc + 1) lv (.int (nI L) :: rest) μ) : G Z X 7 cells slots pc lv (.ref b :: rest) μ := fun Hp locs ls hW hS h => by
  obtain ⟨C, -, -, -, hX, hb, hz, hL⟩ := H
  exact va_slen C.exec C.code hX hb (show ¬ zb Z ≤ b by omega) hS hd (k Hp locs ls hW hS h)
/-- an argument out of the script -/
theorem g_arg (H : LX l Z X b L sx) {i n : Nat} {ni : Int} {v : Int32} (j0 j4 : Nat) (hv : Int32.ofInt ni = v) (hn : nI i + v = nI (i + n)) (hj : i + n < L) (h0 : lv[j0]? = some (0, .ref b)) (h4 : lv[j4]? = some (4, .int (nI i))) (d0 : decode cL_law pc = .ok (.aload_n 0, 1)) (d1 : decode cL_law (pc + 1) = .ok (.iload 4, 2)) (d2 : decode cL_law (pc + 3) = .ok (.iconst ni, 1)) (d3 : decode cL_law (pc + 4) = .ok (.iadd, 1)) (d4 : decode cL_law (pc + 5) = .ok (.iaload, 1))
    (k : G Z X 7 cells slots (pc + 6) lv (.int (sx (i + n)) :: rest) μ) : G Z X 7 cells slots pc lv rest μ := by
  have C := H.1
  refine g_aload_n C (i := 0) j0 rfl h0 d0 ?_
  refine g_iload C (i := 4) j4 h4 d1 ?_
  refine g_iconst C hv d2 ?_
  refine g_iadd C d3 ?_
  rw [hn]
  exact g_sld H hj d4 k
def lvL (Z : ZZ) (b i : Nat) : List (Nat × Value) := [(4, .int (nI i)), (3, .ref (za Z 145)), (2, .ref (za Z 139)), (1, .ref (za Z 0)), (0, .ref b)]

theorem w_tail (H : LX l Z X b L sx) {i : Nat} (k : G Z X 7 cells slots 23 (lvL Z b (i + 4)) [] μ) : G Z X 7 cells slots 1741 (lvL Z b i) [] μ := by
  have C := H.1
  refine g_iinc C (i := 4) (v := nI (i + 4)) (lv' := lvL Z b (i + 4)) 0 (dk kA26 19 rfl) rfl (by show nI i + 4 = nI (i + 4); rw [L4, nI_add]) (by decide) rfl ?_
  exact g_goto C (tgt := 23) (dk kA26 20 rfl) (by decide) k
theorem lcmp_0 {x y : Int64} (h : x = y) : lg_cmp x y = 0 := by
  subst h
  unfold lg_cmp
  rw [if_neg (show ¬ x > x from fun q => Int64.lt_irrefl q), if_pos rfl]
theorem Hk (H : LX l Z X b L sx) : (zk Z 0).1 = 5 ∧ (zk Z 139).1 = 6 ∧ (zk Z 145).1 = 12 ∧ (zk Z 145).2 = 1 := by
  rw [H.2.2.1]
  exact ⟨rfl, rfl, rfl, rfl⟩
end LawB
section LawC
variable {l : Launch} {Z : ZZ} {X : XX} {b L : Nat} {sx : Nat → Int32} {μ μ' : Mm} {cells slots pc : Nat} {lv lv' : List (Nat × Value)} {rest : List Value}

set_option maxRecDepth 100000 in
set_option maxHeartbeats 4000000 in
theorem w_begin (H : LX l Z X b L sx) {i : Nat} {ν : Mm} (hν : IV ν ν) (hi : i + 3 < L) (hcs : cells + 1 ≤ 601024 ∧ slots + 6 ≤ 7293034) (k : ∀ ν2, IV ν2 ν2 → G Z X 7 (cells + 1) (slots + 6) 23 (lvL Z b (i + 4)) [] ν2) : G Z X 7 cells slots 160 (lvL Z b i) [] ν := by
  have C := H.1
  have E := H.2.1
  have hK := H.2.2.1
  obtain ⟨k0, k6, k12, kl⟩ := Hk H
  have fin : ∀ (q : Nat) ν1 v ν2 c1 s1, q < 4 → f_X8_begin KF ν1 139 (sx (i + 1)) = some (v, ν2) → ν2.1 139 7 = nI q → (q = 0 → ν2.2.2 145 0 = Int32.toInt64 v) → IV ν2 ν2 → c1 ≤ cells + 1 → s1 ≤ slots + 6 → G Z X 7 c1 s1 171 [(4, .int (nI i)), (3, .ref (za Z 145)), (2, .ref (za Z 139)), (1, .ref (za Z 0)), (0, .ref b)] [.int (nI q)] ν1 := by
    intro q ν1 v ν2 c1 s1 q4 e2 e3 e4 e5 hc hs
    refine g_istore C (i := 5) (lv' := (5, .int (nI q)) :: [(4, .int (nI i)), (3, .ref (za Z 145)), (2, .ref (za Z 139)), (1, .ref (za Z 0)), (0, .ref b)]) (dk kA0 33 rfl) (by decide) rfl ?_
    refine g_aload_n C (i := 2) 3 rfl rfl (dk kA0 34 rfl) ?_
    refine g_arg H (i := i) (n := 1) (v := 1) 5 1 (by decide) (by rw [L1, nI_add]) (by omega) rfl rfl (dk kA0 35 rfl) (dk kA0 36 rfl) (dk kA0 37 rfl) (dk kA0 38 rfl) (dk kA0 39 rfl) ?_
    refine g_callV C E (As := [.int (sx (i + 1))]) (rest := []) 1 (ct_X8_begin (r := v) (μ' := ν2) k6 (by rw [hK]; exact e2)) (tb5 (List.mem_of_getElem? (i := 41) rfl) rfl) ⟨(tb5 (List.mem_of_getElem? (i := 42) rfl) rfl), (tb5 (List.mem_of_getElem? (i := 43) rfl) rfl), (tb1 (List.mem_of_getElem? (i := 10) rfl) rfl), (tb5 (List.mem_of_getElem? (i := 44) rfl) rfl)⟩ ⟨rfl, by decide, by decide, by decide⟩ rfl (by decide) k6 (by decide) rfl rfl (Nat.le_of_ble_eq_true rfl) ⟨by show c1 + 0 ≤ _; omega, by show s1 + 0 ≤ _; omega⟩ (dk kA1 0 rfl) ?_
    refine g_istore C (i := 6) (lv' := (6, .int v) :: (5, .int (nI q)) :: [(4, .int (nI i)), (3, .ref (za Z 145)), (2, .ref (za Z 139)), (1, .ref (za Z 0)), (0, .ref b)]) (dk kA1 1 rfl) (by decide) rfl ?_
    refine g_aload_n C (i := 2) 4 rfl rfl (dk kA1 2 rfl) ?_
    refine g_callV C E (As := []) (rest := []) 0 (ct_X8_thrown (r := nI q) (μ := ν2) k6 (by rw [← e3]; rfl)) (tb5 (List.mem_of_getElem? (i := 37) rfl) rfl) ⟨(tb5 (List.mem_of_getElem? (i := 38) rfl) rfl), (tb5 (List.mem_of_getElem? (i := 39) rfl) rfl), (tb1 (List.mem_of_getElem? (i := 10) rfl) rfl), (tb5 (List.mem_of_getElem? (i := 40) rfl) rfl)⟩ ⟨rfl, by decide, by decide, by decide⟩ rfl (by decide) k6 (by decide) rfl rfl (Nat.le_of_ble_eq_true rfl) ⟨by show c1 + 0 + 0 ≤ _; omega, by show s1 + 0 + 0 ≤ _; omega⟩ (dk kA1 3 rfl) ?_
    refine g_iload C (i := 5) 1 rfl (dk kA1 4 rfl) ?_
    refine g_icmp_eq C (tgt := 196) (dk kA1 5 rfl) (by decide) (fun _ => ?_) (fun z => absurd rfl z)
    refine g_iload C (i := 5) 1 rfl (dk kA1 8 rfl) ?_
    have last : G Z X 7 (c1 + 0 + 0) (s1 + 0 + 0) 213 ((6, .int v) :: (5, .int (nI q)) :: [(4, .int (nI i)), (3, .ref (za Z 145)), (2, .ref (za Z 139)), (1, .ref (za Z 0)), (0, .ref b)]) [] ν2 := by
      refine g_goto C (tgt := 1741) (dk kA1 19 rfl) (by decide) ?_
      refine g_sub [2, 3, 4, 5, 6] (lv' := lvL Z b i) rfl ?_
      exact w_tail H (g_widen (c1 := cells + 1) (s1 := slots + 6) (by omega) (by omega) (k ν2 e5))
    refine g_if_ne C (tgt := 213) (dk kA1 9 rfl) (by decide) (fun _ => last) (fun z => ?_)
    have q0 : q = 0 := by
      have z : nI q = nI 0 := z
      rwa [eqN (by omega) (by omega)] at z
    refine g_aload_n C (i := 3) 3 rfl rfl (dk kA1 10 rfl) ?_
    refine g_iconst C (v := 0) (by decide) (dk kA1 11 rfl) ?_
    refine g_lald C k12 (by rw [kl]; decide) (dk kA1 12 rfl) ?_
    refine g_iload C (i := 6) 0 rfl (dk kA1 13 rfl) ?_
    refine g_i2l C (dk kA1 14 rfl) ?_
    refine g_lcmp C (dk kA1 15 rfl) ?_
    refine g_if_eq C (tgt := 213) (dk kA1 16 rfl) (by decide) (fun _ => last) (fun z => absurd (lcmp_0 (e4 q0)) z)
  have k12' : (zk Z 145).1 = 12 := k12
  refine g_aload_n C (i := 1) 3 rfl rfl (dk kA0 25 rfl) ?_
  refine g_arg H (i := i) (n := 1) (v := 1) 4 0 (by decide) (by rw [L1, nI_add]) (by omega) rfl rfl (dk kA0 26 rfl) (dk kA0 27 rfl) (dk kA0 28 rfl) (dk kA0 29 rfl) (dk kA0 30 rfl) ?_
  refine g_aload_n C (i := 3) 1 rfl rfl (dk kA0 31 rfl) ?_
  rcases l_begin hν (sx (i + 1)) with ⟨ν1, v, ν2, e1, e2, e3, e4, e5⟩ | ⟨ck, ν1, w, ν2, hm, e1, e2, e3, e5⟩
  · exact g_callSW C E (As := [.ref (za Z 0), .int (sx (i + 1)), .ref (za Z 145)]) (rest := []) 3 (ct_L_begin (r := 0) (μ' := ν1) k0 k12 (by rw [hK]; exact e1)) (tb4 (List.mem_of_getElem? (i := 19) rfl) rfl) ⟨(tb4 (List.mem_of_getElem? (i := 20) rfl) rfl), (tb1 (List.mem_of_getElem? (i := 0) rfl) rfl), (tb4 (List.mem_of_getElem? (i := 21) rfl) rfl)⟩ ⟨by decide, by decide, by decide⟩ rfl (by decide) rfl (Nat.le_of_ble_eq_true rfl) ⟨by show cells + 0 ≤ _; omega, by show slots + 0 ≤ _; omega⟩ (dk kA0 32 rfl) (fin 0 ν1 v ν2 (cells + 0) (slots + 0) (by omega) e2 e3 (fun _ => e4) e5 (by omega) (by omega))
  · rcases List.mem_cons.mp hm with rfl | hm
    · exact g_callSW C E (As := [.ref (za Z 0), .int (sx (i + 1)), .ref (za Z 145)]) (rest := []) 3 (ctx2_L_begin (μ9 := ν1) k0 k12 H.2.2.2.1 (by rw [hK]; exact e1)) (tb4 (List.mem_of_getElem? (i := 19) rfl) rfl) ⟨(tb4 (List.mem_of_getElem? (i := 20) rfl) rfl), (tb1 (List.mem_of_getElem? (i := 0) rfl) rfl), (tb4 (List.mem_of_getElem? (i := 21) rfl) rfl)⟩ ⟨by decide, by decide, by decide⟩ rfl (by decide) rfl (Nat.le_of_ble_eq_true rfl) ⟨hcs.1, hcs.2⟩ (dk kA0 32 rfl) (fin 1 ν1 w ν2 (cells + 1) (slots + 6) (by omega) e2 e3 (fun z => absurd z (by decide)) e5 (by omega) (by omega))
    · exact absurd hm List.not_mem_nil
set_option maxRecDepth 100000 in
set_option maxHeartbeats 4000000 in
theorem w_set (H : LX l Z X b L sx) {i : Nat} {ν : Mm} (hν : IV ν ν) (hi : i + 3 < L) (hcs : cells + 1 ≤ 601024 ∧ slots + 6 ≤ 7293034) (k : ∀ ν2, IV ν2 ν2 → G Z X 7 (cells + 1) (slots + 6) 23 (lvL Z b (i + 4)) [] ν2) : G Z X 7 cells slots 216 (lvL Z b i) [] ν := by
  have C := H.1
  have E := H.2.1
  have hK := H.2.2.1
  obtain ⟨k0, k6, k12, kl⟩ := Hk H
  have fin : ∀ (q : Nat) ν1 v ν2 c1 s1, q < 4 → f_X8_set KF ν1 139 (sx (i + 1)) (sx (i + 2)) = some (v, ν2) → ν2.1 139 7 = nI q → (q = 0 → ν2.2.2 145 0 = Int32.toInt64 v) → IV ν2 ν2 → c1 ≤ cells + 1 → s1 ≤ slots + 6 → G Z X 7 c1 s1 233 [(4, .int (nI i)), (3, .ref (za Z 145)), (2, .ref (za Z 139)), (1, .ref (za Z 0)), (0, .ref b)] [.int (nI q)] ν1 := by
    intro q ν1 v ν2 c1 s1 q4 e2 e3 e4 e5 hc hs
    refine g_istore C (i := 5) (lv' := (5, .int (nI q)) :: [(4, .int (nI i)), (3, .ref (za Z 145)), (2, .ref (za Z 139)), (1, .ref (za Z 0)), (0, .ref b)]) (dk kA1 33 rfl) (by decide) rfl ?_
    refine g_aload_n C (i := 2) 3 rfl rfl (dk kA1 34 rfl) ?_
    refine g_arg H (i := i) (n := 1) (v := 1) 5 1 (by decide) (by rw [L1, nI_add]) (by omega) rfl rfl (dk kA1 35 rfl) (dk kA1 36 rfl) (dk kA1 37 rfl) (dk kA1 38 rfl) (dk kA1 39 rfl) ?_
    refine g_arg H (i := i) (n := 2) (v := 2) 5 1 (by decide) (by rw [L2, nI_add]) (by omega) rfl rfl (dk kA2 0 rfl) (dk kA2 1 rfl) (dk kA2 2 rfl) (dk kA2 3 rfl) (dk kA2 4 rfl) ?_
    refine g_callV C E (As := [.int (sx (i + 1)), .int (sx (i + 2))]) (rest := []) 2 (ct_X8_set (r := v) (μ' := ν2) k6 (by rw [hK]; exact e2)) (tb5 (List.mem_of_getElem? (i := 67) rfl) rfl) ⟨(tb5 (List.mem_of_getElem? (i := 68) rfl) rfl), (tb5 (List.mem_of_getElem? (i := 69) rfl) rfl), (tb1 (List.mem_of_getElem? (i := 10) rfl) rfl), (tb5 (List.mem_of_getElem? (i := 70) rfl) rfl)⟩ ⟨rfl, by decide, by decide, by decide⟩ rfl (by decide) k6 (by decide) rfl rfl (Nat.le_of_ble_eq_true rfl) ⟨by show c1 + 0 ≤ _; omega, by show s1 + 0 ≤ _; omega⟩ (dk kA2 5 rfl) ?_
    refine g_istore C (i := 6) (lv' := (6, .int v) :: (5, .int (nI q)) :: [(4, .int (nI i)), (3, .ref (za Z 145)), (2, .ref (za Z 139)), (1, .ref (za Z 0)), (0, .ref b)]) (dk kA2 6 rfl) (by decide) rfl ?_
    refine g_aload_n C (i := 2) 4 rfl rfl (dk kA2 7 rfl) ?_
    refine g_callV C E (As := []) (rest := []) 0 (ct_X8_thrown (r := nI q) (μ := ν2) k6 (by rw [← e3]; rfl)) (tb5 (List.mem_of_getElem? (i := 37) rfl) rfl) ⟨(tb5 (List.mem_of_getElem? (i := 38) rfl) rfl), (tb5 (List.mem_of_getElem? (i := 39) rfl) rfl), (tb1 (List.mem_of_getElem? (i := 10) rfl) rfl), (tb5 (List.mem_of_getElem? (i := 40) rfl) rfl)⟩ ⟨rfl, by decide, by decide, by decide⟩ rfl (by decide) k6 (by decide) rfl rfl (Nat.le_of_ble_eq_true rfl) ⟨by show c1 + 0 + 0 ≤ _; omega, by show s1 + 0 + 0 ≤ _; omega⟩ (dk kA2 8 rfl) ?_
    refine g_iload C (i := 5) 1 rfl (dk kA2 9 rfl) ?_
    refine g_icmp_eq C (tgt := 264) (dk kA2 10 rfl) (by decide) (fun _ => ?_) (fun z => absurd rfl z)
    refine g_iload C (i := 5) 1 rfl (dk kA2 13 rfl) ?_
    have last : G Z X 7 (c1 + 0 + 0) (s1 + 0 + 0) 281 ((6, .int v) :: (5, .int (nI q)) :: [(4, .int (nI i)), (3, .ref (za Z 145)), (2, .ref (za Z 139)), (1, .ref (za Z 0)), (0, .ref b)]) [] ν2 := by
      refine g_goto C (tgt := 1741) (dk kA2 24 rfl) (by decide) ?_
      refine g_sub [2, 3, 4, 5, 6] (lv' := lvL Z b i) rfl ?_
      exact w_tail H (g_widen (c1 := cells + 1) (s1 := slots + 6) (by omega) (by omega) (k ν2 e5))
    refine g_if_ne C (tgt := 281) (dk kA2 14 rfl) (by decide) (fun _ => last) (fun z => ?_)
    have q0 : q = 0 := by
      have z : nI q = nI 0 := z
      rwa [eqN (by omega) (by omega)] at z
    refine g_aload_n C (i := 3) 3 rfl rfl (dk kA2 15 rfl) ?_
    refine g_iconst C (v := 0) (by decide) (dk kA2 16 rfl) ?_
    refine g_lald C k12 (by rw [kl]; decide) (dk kA2 17 rfl) ?_
    refine g_iload C (i := 6) 0 rfl (dk kA2 18 rfl) ?_
    refine g_i2l C (dk kA2 19 rfl) ?_
    refine g_lcmp C (dk kA2 20 rfl) ?_
    refine g_if_eq C (tgt := 281) (dk kA2 21 rfl) (by decide) (fun _ => last) (fun z => absurd (lcmp_0 (e4 q0)) z)
  have k12' : (zk Z 145).1 = 12 := k12
  refine g_aload_n C (i := 1) 3 rfl rfl (dk kA1 20 rfl) ?_
  refine g_arg H (i := i) (n := 1) (v := 1) 4 0 (by decide) (by rw [L1, nI_add]) (by omega) rfl rfl (dk kA1 21 rfl) (dk kA1 22 rfl) (dk kA1 23 rfl) (dk kA1 24 rfl) (dk kA1 25 rfl) ?_
  refine g_arg H (i := i) (n := 2) (v := 2) 4 0 (by decide) (by rw [L2, nI_add]) (by omega) rfl rfl (dk kA1 26 rfl) (dk kA1 27 rfl) (dk kA1 28 rfl) (dk kA1 29 rfl) (dk kA1 30 rfl) ?_
  refine g_aload_n C (i := 3) 1 rfl rfl (dk kA1 31 rfl) ?_
  rcases l_set hν (sx (i + 1)) (sx (i + 2)) with ⟨ν1, v, ν2, e1, e2, e3, e4, e5⟩ | ⟨ck, ν1, w, ν2, hm, e1, e2, e3, e5⟩
  · exact g_callSW C E (As := [.ref (za Z 0), .int (sx (i + 1)), .int (sx (i + 2)), .ref (za Z 145)]) (rest := []) 4 (ct_L_set (r := 0) (μ' := ν1) k0 k12 (by rw [hK]; exact e1)) (tb4 (List.mem_of_getElem? (i := 29) rfl) rfl) ⟨(tb4 (List.mem_of_getElem? (i := 30) rfl) rfl), (tb1 (List.mem_of_getElem? (i := 0) rfl) rfl), (tb4 (List.mem_of_getElem? (i := 31) rfl) rfl)⟩ ⟨by decide, by decide, by decide⟩ rfl (by decide) rfl (Nat.le_of_ble_eq_true rfl) ⟨by show cells + 0 ≤ _; omega, by show slots + 0 ≤ _; omega⟩ (dk kA1 32 rfl) (fin 0 ν1 v ν2 (cells + 0) (slots + 0) (by omega) e2 e3 (fun _ => e4) e5 (by omega) (by omega))
  · rcases List.mem_cons.mp hm with rfl | hm
    · exact g_callSW C E (As := [.ref (za Z 0), .int (sx (i + 1)), .int (sx (i + 2)), .ref (za Z 145)]) (rest := []) 4 (ctx2_L_set (μ9 := ν1) k0 k12 H.2.2.2.1 (by rw [hK]; exact e1)) (tb4 (List.mem_of_getElem? (i := 29) rfl) rfl) ⟨(tb4 (List.mem_of_getElem? (i := 30) rfl) rfl), (tb1 (List.mem_of_getElem? (i := 0) rfl) rfl), (tb4 (List.mem_of_getElem? (i := 31) rfl) rfl)⟩ ⟨by decide, by decide, by decide⟩ rfl (by decide) rfl (Nat.le_of_ble_eq_true rfl) ⟨hcs.1, hcs.2⟩ (dk kA1 32 rfl) (fin 1 ν1 w ν2 (cells + 1) (slots + 6) (by omega) e2 e3 (fun z => absurd z (by decide)) e5 (by omega) (by omega))
    · exact absurd hm List.not_mem_nil
set_option maxRecDepth 100000 in
set_option maxHeartbeats 4000000 in
theorem w_addLabel (H : LX l Z X b L sx) {i : Nat} {ν : Mm} (hν : IV ν ν) (hi : i + 3 < L) (hcs : cells + 1 ≤ 601024 ∧ slots + 6 ≤ 7293034) (k : ∀ ν2, IV ν2 ν2 → G Z X 7 (cells + 1) (slots + 6) 23 (lvL Z b (i + 4)) [] ν2) : G Z X 7 cells slots 284 (lvL Z b i) [] ν := by
  have C := H.1
  have E := H.2.1
  have hK := H.2.2.1
  obtain ⟨k0, k6, k12, kl⟩ := Hk H
  have fin : ∀ (q : Nat) ν1 v ν2 c1 s1, q < 4 → f_X8_addLabel KF ν1 139 (sx (i + 1)) (sx (i + 2)) = some (v, ν2) → ν2.1 139 7 = nI q → (q = 0 → ν2.2.2 145 0 = Int32.toInt64 v) → IV ν2 ν2 → c1 ≤ cells + 1 → s1 ≤ slots + 6 → G Z X 7 c1 s1 301 [(4, .int (nI i)), (3, .ref (za Z 145)), (2, .ref (za Z 139)), (1, .ref (za Z 0)), (0, .ref b)] [.int (nI q)] ν1 := by
    intro q ν1 v ν2 c1 s1 q4 e2 e3 e4 e5 hc hs
    refine g_istore C (i := 5) (lv' := (5, .int (nI q)) :: [(4, .int (nI i)), (3, .ref (za Z 145)), (2, .ref (za Z 139)), (1, .ref (za Z 0)), (0, .ref b)]) (dk kA2 38 rfl) (by decide) rfl ?_
    refine g_aload_n C (i := 2) 3 rfl rfl (dk kA2 39 rfl) ?_
    refine g_arg H (i := i) (n := 1) (v := 1) 5 1 (by decide) (by rw [L1, nI_add]) (by omega) rfl rfl (dk kA3 0 rfl) (dk kA3 1 rfl) (dk kA3 2 rfl) (dk kA3 3 rfl) (dk kA3 4 rfl) ?_
    refine g_arg H (i := i) (n := 2) (v := 2) 5 1 (by decide) (by rw [L2, nI_add]) (by omega) rfl rfl (dk kA3 5 rfl) (dk kA3 6 rfl) (dk kA3 7 rfl) (dk kA3 8 rfl) (dk kA3 9 rfl) ?_
    refine g_callV C E (As := [.int (sx (i + 1)), .int (sx (i + 2))]) (rest := []) 2 (ct_X8_addLabel (r := v) (μ' := ν2) k6 (by rw [hK]; exact e2)) (tb5 (List.mem_of_getElem? (i := 77) rfl) rfl) ⟨(tb5 (List.mem_of_getElem? (i := 78) rfl) rfl), (tb5 (List.mem_of_getElem? (i := 79) rfl) rfl), (tb1 (List.mem_of_getElem? (i := 10) rfl) rfl), (tb5 (List.mem_of_getElem? (i := 80) rfl) rfl)⟩ ⟨rfl, by decide, by decide, by decide⟩ rfl (by decide) k6 (by decide) rfl rfl (Nat.le_of_ble_eq_true rfl) ⟨by show c1 + 0 ≤ _; omega, by show s1 + 0 ≤ _; omega⟩ (dk kA3 10 rfl) ?_
    refine g_istore C (i := 6) (lv' := (6, .int v) :: (5, .int (nI q)) :: [(4, .int (nI i)), (3, .ref (za Z 145)), (2, .ref (za Z 139)), (1, .ref (za Z 0)), (0, .ref b)]) (dk kA3 11 rfl) (by decide) rfl ?_
    refine g_aload_n C (i := 2) 4 rfl rfl (dk kA3 12 rfl) ?_
    refine g_callV C E (As := []) (rest := []) 0 (ct_X8_thrown (r := nI q) (μ := ν2) k6 (by rw [← e3]; rfl)) (tb5 (List.mem_of_getElem? (i := 37) rfl) rfl) ⟨(tb5 (List.mem_of_getElem? (i := 38) rfl) rfl), (tb5 (List.mem_of_getElem? (i := 39) rfl) rfl), (tb1 (List.mem_of_getElem? (i := 10) rfl) rfl), (tb5 (List.mem_of_getElem? (i := 40) rfl) rfl)⟩ ⟨rfl, by decide, by decide, by decide⟩ rfl (by decide) k6 (by decide) rfl rfl (Nat.le_of_ble_eq_true rfl) ⟨by show c1 + 0 + 0 ≤ _; omega, by show s1 + 0 + 0 ≤ _; omega⟩ (dk kA3 13 rfl) ?_
    refine g_iload C (i := 5) 1 rfl (dk kA3 14 rfl) ?_
    refine g_icmp_eq C (tgt := 332) (dk kA3 15 rfl) (by decide) (fun _ => ?_) (fun z => absurd rfl z)
    refine g_iload C (i := 5) 1 rfl (dk kA3 18 rfl) ?_
    have last : G Z X 7 (c1 + 0 + 0) (s1 + 0 + 0) 349 ((6, .int v) :: (5, .int (nI q)) :: [(4, .int (nI i)), (3, .ref (za Z 145)), (2, .ref (za Z 139)), (1, .ref (za Z 0)), (0, .ref b)]) [] ν2 := by
      refine g_goto C (tgt := 1741) (dk kA3 29 rfl) (by decide) ?_
      refine g_sub [2, 3, 4, 5, 6] (lv' := lvL Z b i) rfl ?_
      exact w_tail H (g_widen (c1 := cells + 1) (s1 := slots + 6) (by omega) (by omega) (k ν2 e5))
    refine g_if_ne C (tgt := 349) (dk kA3 19 rfl) (by decide) (fun _ => last) (fun z => ?_)
    have q0 : q = 0 := by
      have z : nI q = nI 0 := z
      rwa [eqN (by omega) (by omega)] at z
    refine g_aload_n C (i := 3) 3 rfl rfl (dk kA3 20 rfl) ?_
    refine g_iconst C (v := 0) (by decide) (dk kA3 21 rfl) ?_
    refine g_lald C k12 (by rw [kl]; decide) (dk kA3 22 rfl) ?_
    refine g_iload C (i := 6) 0 rfl (dk kA3 23 rfl) ?_
    refine g_i2l C (dk kA3 24 rfl) ?_
    refine g_lcmp C (dk kA3 25 rfl) ?_
    refine g_if_eq C (tgt := 349) (dk kA3 26 rfl) (by decide) (fun _ => last) (fun z => absurd (lcmp_0 (e4 q0)) z)
  have k12' : (zk Z 145).1 = 12 := k12
  refine g_aload_n C (i := 1) 3 rfl rfl (dk kA2 25 rfl) ?_
  refine g_arg H (i := i) (n := 1) (v := 1) 4 0 (by decide) (by rw [L1, nI_add]) (by omega) rfl rfl (dk kA2 26 rfl) (dk kA2 27 rfl) (dk kA2 28 rfl) (dk kA2 29 rfl) (dk kA2 30 rfl) ?_
  refine g_arg H (i := i) (n := 2) (v := 2) 4 0 (by decide) (by rw [L2, nI_add]) (by omega) rfl rfl (dk kA2 31 rfl) (dk kA2 32 rfl) (dk kA2 33 rfl) (dk kA2 34 rfl) (dk kA2 35 rfl) ?_
  refine g_aload_n C (i := 3) 1 rfl rfl (dk kA2 36 rfl) ?_
  rcases l_addLabel hν (sx (i + 1)) (sx (i + 2)) with ⟨ν1, v, ν2, e1, e2, e3, e4, e5⟩ | ⟨ck, ν1, w, ν2, hm, e1, e2, e3, e5⟩
  · exact g_callSW C E (As := [.ref (za Z 0), .int (sx (i + 1)), .int (sx (i + 2)), .ref (za Z 145)]) (rest := []) 4 (ct_L_addLabel (r := 0) (μ' := ν1) k0 k12 (by rw [hK]; exact e1)) (tb4 (List.mem_of_getElem? (i := 38) rfl) rfl) ⟨(tb4 (List.mem_of_getElem? (i := 39) rfl) rfl), (tb1 (List.mem_of_getElem? (i := 0) rfl) rfl), (tb4 (List.mem_of_getElem? (i := 40) rfl) rfl)⟩ ⟨by decide, by decide, by decide⟩ rfl (by decide) rfl (Nat.le_of_ble_eq_true rfl) ⟨by show cells + 0 ≤ _; omega, by show slots + 0 ≤ _; omega⟩ (dk kA2 37 rfl) (fin 0 ν1 v ν2 (cells + 0) (slots + 0) (by omega) e2 e3 (fun _ => e4) e5 (by omega) (by omega))
  · rcases List.mem_cons.mp hm with rfl | hm
    · exact g_callSW C E (As := [.ref (za Z 0), .int (sx (i + 1)), .int (sx (i + 2)), .ref (za Z 145)]) (rest := []) 4 (ctx2_L_addLabel (μ9 := ν1) k0 k12 H.2.2.2.1 (by rw [hK]; exact e1)) (tb4 (List.mem_of_getElem? (i := 38) rfl) rfl) ⟨(tb4 (List.mem_of_getElem? (i := 39) rfl) rfl), (tb1 (List.mem_of_getElem? (i := 0) rfl) rfl), (tb4 (List.mem_of_getElem? (i := 40) rfl) rfl)⟩ ⟨by decide, by decide, by decide⟩ rfl (by decide) rfl (Nat.le_of_ble_eq_true rfl) ⟨hcs.1, hcs.2⟩ (dk kA2 37 rfl) (fin 1 ν1 w ν2 (cells + 1) (slots + 6) (by omega) e2 e3 (fun z => absurd z (by decide)) e5 (by omega) (by omega))
    · rcases List.mem_cons.mp hm with rfl | hm
      · exact g_callSW C E (As := [.ref (za Z 0), .int (sx (i + 1)), .int (sx (i + 2)), .ref (za Z 145)]) (rest := []) 4 (ctx3_L_addLabel (μ9 := ν1) k0 k12 H.2.2.2.1 (by rw [hK]; exact e1)) (tb4 (List.mem_of_getElem? (i := 38) rfl) rfl) ⟨(tb4 (List.mem_of_getElem? (i := 39) rfl) rfl), (tb1 (List.mem_of_getElem? (i := 0) rfl) rfl), (tb4 (List.mem_of_getElem? (i := 40) rfl) rfl)⟩ ⟨by decide, by decide, by decide⟩ rfl (by decide) rfl (Nat.le_of_ble_eq_true rfl) ⟨hcs.1, hcs.2⟩ (dk kA2 37 rfl) (fin 2 ν1 w ν2 (cells + 1) (slots + 6) (by omega) e2 e3 (fun z => absurd z (by decide)) e5 (by omega) (by omega))
      · exact absurd hm List.not_mem_nil
set_option maxRecDepth 100000 in
set_option maxHeartbeats 4000000 in
theorem w_setRow (H : LX l Z X b L sx) {i : Nat} {ν : Mm} (hν : IV ν ν) (hi : i + 3 < L) (hcs : cells + 1 ≤ 601024 ∧ slots + 6 ≤ 7293034) (k : ∀ ν2, IV ν2 ν2 → G Z X 7 (cells + 1) (slots + 6) 23 (lvL Z b (i + 4)) [] ν2) : G Z X 7 cells slots 352 (lvL Z b i) [] ν := by
  have C := H.1
  have E := H.2.1
  have hK := H.2.2.1
  obtain ⟨k0, k6, k12, kl⟩ := Hk H
  have fin : ∀ (q : Nat) ν1 v ν2 c1 s1, q < 4 → f_X8_setRow KF ν1 139 (sx (i + 1)) (sx (i + 2)) (sx (i + 3)) = some (v, ν2) → ν2.1 139 7 = nI q → (q = 0 → ν2.2.2 145 0 = Int32.toInt64 v) → IV ν2 ν2 → c1 ≤ cells + 1 → s1 ≤ slots + 6 → G Z X 7 c1 s1 375 [(4, .int (nI i)), (3, .ref (za Z 145)), (2, .ref (za Z 139)), (1, .ref (za Z 0)), (0, .ref b)] [.int (nI q)] ν1 := by
    intro q ν1 v ν2 c1 s1 q4 e2 e3 e4 e5 hc hs
    refine g_istore C (i := 5) (lv' := (5, .int (nI q)) :: [(4, .int (nI i)), (3, .ref (za Z 145)), (2, .ref (za Z 139)), (1, .ref (za Z 0)), (0, .ref b)]) (dk kA4 8 rfl) (by decide) rfl ?_
    refine g_aload_n C (i := 2) 3 rfl rfl (dk kA4 9 rfl) ?_
    refine g_arg H (i := i) (n := 1) (v := 1) 5 1 (by decide) (by rw [L1, nI_add]) (by omega) rfl rfl (dk kA4 10 rfl) (dk kA4 11 rfl) (dk kA4 12 rfl) (dk kA4 13 rfl) (dk kA4 14 rfl) ?_
    refine g_arg H (i := i) (n := 2) (v := 2) 5 1 (by decide) (by rw [L2, nI_add]) (by omega) rfl rfl (dk kA4 15 rfl) (dk kA4 16 rfl) (dk kA4 17 rfl) (dk kA4 18 rfl) (dk kA4 19 rfl) ?_
    refine g_arg H (i := i) (n := 3) (v := 3) 5 1 (by decide) (by rw [L3, nI_add]) (by omega) rfl rfl (dk kA4 20 rfl) (dk kA4 21 rfl) (dk kA4 22 rfl) (dk kA4 23 rfl) (dk kA4 24 rfl) ?_
    refine g_callV C E (As := [.int (sx (i + 1)), .int (sx (i + 2)), .int (sx (i + 3))]) (rest := []) 3 (ct_X8_setRow (r := v) (μ' := ν2) k6 (by rw [hK]; exact e2)) (tb5 (List.mem_of_getElem? (i := 81) rfl) rfl) ⟨(tb5 (List.mem_of_getElem? (i := 82) rfl) rfl), (tb5 (List.mem_of_getElem? (i := 83) rfl) rfl), (tb1 (List.mem_of_getElem? (i := 10) rfl) rfl), (tb5 (List.mem_of_getElem? (i := 84) rfl) rfl)⟩ ⟨rfl, by decide, by decide, by decide⟩ rfl (by decide) k6 (by decide) rfl rfl (Nat.le_of_ble_eq_true rfl) ⟨by show c1 + 0 ≤ _; omega, by show s1 + 0 ≤ _; omega⟩ (dk kA4 25 rfl) ?_
    refine g_istore C (i := 6) (lv' := (6, .int v) :: (5, .int (nI q)) :: [(4, .int (nI i)), (3, .ref (za Z 145)), (2, .ref (za Z 139)), (1, .ref (za Z 0)), (0, .ref b)]) (dk kA4 26 rfl) (by decide) rfl ?_
    refine g_aload_n C (i := 2) 4 rfl rfl (dk kA4 27 rfl) ?_
    refine g_callV C E (As := []) (rest := []) 0 (ct_X8_thrown (r := nI q) (μ := ν2) k6 (by rw [← e3]; rfl)) (tb5 (List.mem_of_getElem? (i := 37) rfl) rfl) ⟨(tb5 (List.mem_of_getElem? (i := 38) rfl) rfl), (tb5 (List.mem_of_getElem? (i := 39) rfl) rfl), (tb1 (List.mem_of_getElem? (i := 10) rfl) rfl), (tb5 (List.mem_of_getElem? (i := 40) rfl) rfl)⟩ ⟨rfl, by decide, by decide, by decide⟩ rfl (by decide) k6 (by decide) rfl rfl (Nat.le_of_ble_eq_true rfl) ⟨by show c1 + 0 + 0 ≤ _; omega, by show s1 + 0 + 0 ≤ _; omega⟩ (dk kA4 28 rfl) ?_
    refine g_iload C (i := 5) 1 rfl (dk kA4 29 rfl) ?_
    refine g_icmp_eq C (tgt := 412) (dk kA4 30 rfl) (by decide) (fun _ => ?_) (fun z => absurd rfl z)
    refine g_iload C (i := 5) 1 rfl (dk kA4 33 rfl) ?_
    have last : G Z X 7 (c1 + 0 + 0) (s1 + 0 + 0) 429 ((6, .int v) :: (5, .int (nI q)) :: [(4, .int (nI i)), (3, .ref (za Z 145)), (2, .ref (za Z 139)), (1, .ref (za Z 0)), (0, .ref b)]) [] ν2 := by
      refine g_goto C (tgt := 1741) (dk kA5 4 rfl) (by decide) ?_
      refine g_sub [2, 3, 4, 5, 6] (lv' := lvL Z b i) rfl ?_
      exact w_tail H (g_widen (c1 := cells + 1) (s1 := slots + 6) (by omega) (by omega) (k ν2 e5))
    refine g_if_ne C (tgt := 429) (dk kA4 34 rfl) (by decide) (fun _ => last) (fun z => ?_)
    have q0 : q = 0 := by
      have z : nI q = nI 0 := z
      rwa [eqN (by omega) (by omega)] at z
    refine g_aload_n C (i := 3) 3 rfl rfl (dk kA4 35 rfl) ?_
    refine g_iconst C (v := 0) (by decide) (dk kA4 36 rfl) ?_
    refine g_lald C k12 (by rw [kl]; decide) (dk kA4 37 rfl) ?_
    refine g_iload C (i := 6) 0 rfl (dk kA4 38 rfl) ?_
    refine g_i2l C (dk kA4 39 rfl) ?_
    refine g_lcmp C (dk kA5 0 rfl) ?_
    refine g_if_eq C (tgt := 429) (dk kA5 1 rfl) (by decide) (fun _ => last) (fun z => absurd (lcmp_0 (e4 q0)) z)
  have k12' : (zk Z 145).1 = 12 := k12
  refine g_aload_n C (i := 1) 3 rfl rfl (dk kA3 30 rfl) ?_
  refine g_arg H (i := i) (n := 1) (v := 1) 4 0 (by decide) (by rw [L1, nI_add]) (by omega) rfl rfl (dk kA3 31 rfl) (dk kA3 32 rfl) (dk kA3 33 rfl) (dk kA3 34 rfl) (dk kA3 35 rfl) ?_
  refine g_arg H (i := i) (n := 2) (v := 2) 4 0 (by decide) (by rw [L2, nI_add]) (by omega) rfl rfl (dk kA3 36 rfl) (dk kA3 37 rfl) (dk kA3 38 rfl) (dk kA3 39 rfl) (dk kA4 0 rfl) ?_
  refine g_arg H (i := i) (n := 3) (v := 3) 4 0 (by decide) (by rw [L3, nI_add]) (by omega) rfl rfl (dk kA4 1 rfl) (dk kA4 2 rfl) (dk kA4 3 rfl) (dk kA4 4 rfl) (dk kA4 5 rfl) ?_
  refine g_aload_n C (i := 3) 1 rfl rfl (dk kA4 6 rfl) ?_
  rcases l_setRow hν (sx (i + 1)) (sx (i + 2)) (sx (i + 3)) with ⟨ν1, v, ν2, e1, e2, e3, e4, e5⟩ | ⟨ck, ν1, w, ν2, hm, e1, e2, e3, e5⟩
  · exact g_callSW C E (As := [.ref (za Z 0), .int (sx (i + 1)), .int (sx (i + 2)), .int (sx (i + 3)), .ref (za Z 145)]) (rest := []) 5 (ct_L_setRow (r := 0) (μ' := ν1) k0 k12 (by rw [hK]; exact e1)) (tb4 (List.mem_of_getElem? (i := 48) rfl) rfl) ⟨(tb4 (List.mem_of_getElem? (i := 49) rfl) rfl), (tb1 (List.mem_of_getElem? (i := 0) rfl) rfl), (tb4 (List.mem_of_getElem? (i := 50) rfl) rfl)⟩ ⟨by decide, by decide, by decide⟩ rfl (by decide) rfl (Nat.le_of_ble_eq_true rfl) ⟨by show cells + 0 ≤ _; omega, by show slots + 0 ≤ _; omega⟩ (dk kA4 7 rfl) (fin 0 ν1 v ν2 (cells + 0) (slots + 0) (by omega) e2 e3 (fun _ => e4) e5 (by omega) (by omega))
  · rcases List.mem_cons.mp hm with rfl | hm
    · exact g_callSW C E (As := [.ref (za Z 0), .int (sx (i + 1)), .int (sx (i + 2)), .int (sx (i + 3)), .ref (za Z 145)]) (rest := []) 5 (ctx1_L_setRow (μ9 := ν1) k0 k12 H.2.2.2.1 (by rw [hK]; exact e1)) (tb4 (List.mem_of_getElem? (i := 48) rfl) rfl) ⟨(tb4 (List.mem_of_getElem? (i := 49) rfl) rfl), (tb1 (List.mem_of_getElem? (i := 0) rfl) rfl), (tb4 (List.mem_of_getElem? (i := 50) rfl) rfl)⟩ ⟨by decide, by decide, by decide⟩ rfl (by decide) rfl (Nat.le_of_ble_eq_true rfl) ⟨hcs.1, hcs.2⟩ (dk kA4 7 rfl) (fin 1 ν1 w ν2 (cells + 1) (slots + 6) (by omega) e2 e3 (fun z => absurd z (by decide)) e5 (by omega) (by omega))
    · rcases List.mem_cons.mp hm with rfl | hm
      · exact g_callSW C E (As := [.ref (za Z 0), .int (sx (i + 1)), .int (sx (i + 2)), .int (sx (i + 3)), .ref (za Z 145)]) (rest := []) 5 (ctx2_L_setRow (μ9 := ν1) k0 k12 H.2.2.2.1 (by rw [hK]; exact e1)) (tb4 (List.mem_of_getElem? (i := 48) rfl) rfl) ⟨(tb4 (List.mem_of_getElem? (i := 49) rfl) rfl), (tb1 (List.mem_of_getElem? (i := 0) rfl) rfl), (tb4 (List.mem_of_getElem? (i := 50) rfl) rfl)⟩ ⟨by decide, by decide, by decide⟩ rfl (by decide) rfl (Nat.le_of_ble_eq_true rfl) ⟨hcs.1, hcs.2⟩ (dk kA4 7 rfl) (fin 2 ν1 w ν2 (cells + 1) (slots + 6) (by omega) e2 e3 (fun z => absurd z (by decide)) e5 (by omega) (by omega))
      · exact absurd hm List.not_mem_nil
set_option maxRecDepth 100000 in
set_option maxHeartbeats 4000000 in
theorem w_replace (H : LX l Z X b L sx) {i : Nat} {ν : Mm} (hν : IV ν ν) (hi : i + 3 < L) (hcs : cells + 1 ≤ 601024 ∧ slots + 6 ≤ 7293034) (k : ∀ ν2, IV ν2 ν2 → G Z X 7 (cells + 1) (slots + 6) 23 (lvL Z b (i + 4)) [] ν2) : G Z X 7 cells slots 432 (lvL Z b i) [] ν := by
  have C := H.1
  have E := H.2.1
  have hK := H.2.2.1
  obtain ⟨k0, k6, k12, kl⟩ := Hk H
  have fin : ∀ (q : Nat) ν1 v ν2 c1 s1, q < 4 → f_X8_replace KF ν1 139 (sx (i + 1)) = some (v, ν2) → ν2.1 139 7 = nI q → (q = 0 → ν2.2.2 145 0 = Int32.toInt64 v) → IV ν2 ν2 → c1 ≤ cells + 1 → s1 ≤ slots + 6 → G Z X 7 c1 s1 443 [(4, .int (nI i)), (3, .ref (za Z 145)), (2, .ref (za Z 139)), (1, .ref (za Z 0)), (0, .ref b)] [.int (nI q)] ν1 := by
    intro q ν1 v ν2 c1 s1 q4 e2 e3 e4 e5 hc hs
    refine g_istore C (i := 5) (lv' := (5, .int (nI q)) :: [(4, .int (nI i)), (3, .ref (za Z 145)), (2, .ref (za Z 139)), (1, .ref (za Z 0)), (0, .ref b)]) (dk kA5 13 rfl) (by decide) rfl ?_
    refine g_aload_n C (i := 2) 3 rfl rfl (dk kA5 14 rfl) ?_
    refine g_arg H (i := i) (n := 1) (v := 1) 5 1 (by decide) (by rw [L1, nI_add]) (by omega) rfl rfl (dk kA5 15 rfl) (dk kA5 16 rfl) (dk kA5 17 rfl) (dk kA5 18 rfl) (dk kA5 19 rfl) ?_
    refine g_callV C E (As := [.int (sx (i + 1))]) (rest := []) 1 (ct_X8_replace (r := v) (μ' := ν2) k6 (by rw [hK]; exact e2)) (tb5 (List.mem_of_getElem? (i := 93) rfl) rfl) ⟨(tb5 (List.mem_of_getElem? (i := 94) rfl) rfl), (tb5 (List.mem_of_getElem? (i := 95) rfl) rfl), (tb1 (List.mem_of_getElem? (i := 10) rfl) rfl), (tb5 (List.mem_of_getElem? (i := 96) rfl) rfl)⟩ ⟨rfl, by decide, by decide, by decide⟩ rfl (by decide) k6 (by decide) rfl rfl (Nat.le_of_ble_eq_true rfl) ⟨by show c1 + 0 ≤ _; omega, by show s1 + 0 ≤ _; omega⟩ (dk kA5 20 rfl) ?_
    refine g_istore C (i := 6) (lv' := (6, .int v) :: (5, .int (nI q)) :: [(4, .int (nI i)), (3, .ref (za Z 145)), (2, .ref (za Z 139)), (1, .ref (za Z 0)), (0, .ref b)]) (dk kA5 21 rfl) (by decide) rfl ?_
    refine g_aload_n C (i := 2) 4 rfl rfl (dk kA5 22 rfl) ?_
    refine g_callV C E (As := []) (rest := []) 0 (ct_X8_thrown (r := nI q) (μ := ν2) k6 (by rw [← e3]; rfl)) (tb5 (List.mem_of_getElem? (i := 37) rfl) rfl) ⟨(tb5 (List.mem_of_getElem? (i := 38) rfl) rfl), (tb5 (List.mem_of_getElem? (i := 39) rfl) rfl), (tb1 (List.mem_of_getElem? (i := 10) rfl) rfl), (tb5 (List.mem_of_getElem? (i := 40) rfl) rfl)⟩ ⟨rfl, by decide, by decide, by decide⟩ rfl (by decide) k6 (by decide) rfl rfl (Nat.le_of_ble_eq_true rfl) ⟨by show c1 + 0 + 0 ≤ _; omega, by show s1 + 0 + 0 ≤ _; omega⟩ (dk kA5 23 rfl) ?_
    refine g_iload C (i := 5) 1 rfl (dk kA5 24 rfl) ?_
    refine g_icmp_eq C (tgt := 468) (dk kA5 25 rfl) (by decide) (fun _ => ?_) (fun z => absurd rfl z)
    refine g_iload C (i := 5) 1 rfl (dk kA5 28 rfl) ?_
    have last : G Z X 7 (c1 + 0 + 0) (s1 + 0 + 0) 485 ((6, .int v) :: (5, .int (nI q)) :: [(4, .int (nI i)), (3, .ref (za Z 145)), (2, .ref (za Z 139)), (1, .ref (za Z 0)), (0, .ref b)]) [] ν2 := by
      refine g_goto C (tgt := 1741) (dk kA5 39 rfl) (by decide) ?_
      refine g_sub [2, 3, 4, 5, 6] (lv' := lvL Z b i) rfl ?_
      exact w_tail H (g_widen (c1 := cells + 1) (s1 := slots + 6) (by omega) (by omega) (k ν2 e5))
    refine g_if_ne C (tgt := 485) (dk kA5 29 rfl) (by decide) (fun _ => last) (fun z => ?_)
    have q0 : q = 0 := by
      have z : nI q = nI 0 := z
      rwa [eqN (by omega) (by omega)] at z
    refine g_aload_n C (i := 3) 3 rfl rfl (dk kA5 30 rfl) ?_
    refine g_iconst C (v := 0) (by decide) (dk kA5 31 rfl) ?_
    refine g_lald C k12 (by rw [kl]; decide) (dk kA5 32 rfl) ?_
    refine g_iload C (i := 6) 0 rfl (dk kA5 33 rfl) ?_
    refine g_i2l C (dk kA5 34 rfl) ?_
    refine g_lcmp C (dk kA5 35 rfl) ?_
    refine g_if_eq C (tgt := 485) (dk kA5 36 rfl) (by decide) (fun _ => last) (fun z => absurd (lcmp_0 (e4 q0)) z)
  have k12' : (zk Z 145).1 = 12 := k12
  refine g_aload_n C (i := 1) 3 rfl rfl (dk kA5 5 rfl) ?_
  refine g_arg H (i := i) (n := 1) (v := 1) 4 0 (by decide) (by rw [L1, nI_add]) (by omega) rfl rfl (dk kA5 6 rfl) (dk kA5 7 rfl) (dk kA5 8 rfl) (dk kA5 9 rfl) (dk kA5 10 rfl) ?_
  refine g_aload_n C (i := 3) 1 rfl rfl (dk kA5 11 rfl) ?_
  rcases l_replace hν (sx (i + 1)) with ⟨ν1, v, ν2, e1, e2, e3, e4, e5⟩ | ⟨ck, ν1, w, ν2, hm, e1, e2, e3, e5⟩
  · exact g_callSW C E (As := [.ref (za Z 0), .int (sx (i + 1)), .ref (za Z 145)]) (rest := []) 3 (ct_L_replace (r := 0) (μ' := ν1) k0 k12 (by rw [hK]; exact e1)) (tb4 (List.mem_of_getElem? (i := 58) rfl) rfl) ⟨(tb4 (List.mem_of_getElem? (i := 59) rfl) rfl), (tb1 (List.mem_of_getElem? (i := 0) rfl) rfl), (tb4 (List.mem_of_getElem? (i := 60) rfl) rfl)⟩ ⟨by decide, by decide, by decide⟩ rfl (by decide) rfl (Nat.le_of_ble_eq_true rfl) ⟨by show cells + 0 ≤ _; omega, by show slots + 0 ≤ _; omega⟩ (dk kA5 12 rfl) (fin 0 ν1 v ν2 (cells + 0) (slots + 0) (by omega) e2 e3 (fun _ => e4) e5 (by omega) (by omega))
  · rcases List.mem_cons.mp hm with rfl | hm
    · exact g_callSW C E (As := [.ref (za Z 0), .int (sx (i + 1)), .ref (za Z 145)]) (rest := []) 3 (ctx1_L_replace (μ9 := ν1) k0 k12 H.2.2.2.1 (by rw [hK]; exact e1)) (tb4 (List.mem_of_getElem? (i := 58) rfl) rfl) ⟨(tb4 (List.mem_of_getElem? (i := 59) rfl) rfl), (tb1 (List.mem_of_getElem? (i := 0) rfl) rfl), (tb4 (List.mem_of_getElem? (i := 60) rfl) rfl)⟩ ⟨by decide, by decide, by decide⟩ rfl (by decide) rfl (Nat.le_of_ble_eq_true rfl) ⟨hcs.1, hcs.2⟩ (dk kA5 12 rfl) (fin 1 ν1 w ν2 (cells + 1) (slots + 6) (by omega) e2 e3 (fun z => absurd z (by decide)) e5 (by omega) (by omega))
    · exact absurd hm List.not_mem_nil
set_option maxRecDepth 100000 in
set_option maxHeartbeats 4000000 in
theorem w_cool (H : LX l Z X b L sx) {i : Nat} {ν : Mm} (hν : IV ν ν) (hi : i + 3 < L) (hcs : cells + 1 ≤ 601024 ∧ slots + 6 ≤ 7293034) (k : ∀ ν2, IV ν2 ν2 → G Z X 7 (cells + 1) (slots + 6) 23 (lvL Z b (i + 4)) [] ν2) : G Z X 7 cells slots 488 (lvL Z b i) [] ν := by
  have C := H.1
  have E := H.2.1
  have hK := H.2.2.1
  obtain ⟨k0, k6, k12, kl⟩ := Hk H
  have fin : ∀ (q : Nat) ν1 v ν2 c1 s1, q < 4 → f_X8_cool KF ν1 139 (sx (i + 1)) = some (v, ν2) → ν2.1 139 7 = nI q → (q = 0 → ν2.2.2 145 0 = Int32.toInt64 v) → IV ν2 ν2 → c1 ≤ cells + 1 → s1 ≤ slots + 6 → G Z X 7 c1 s1 499 [(4, .int (nI i)), (3, .ref (za Z 145)), (2, .ref (za Z 139)), (1, .ref (za Z 0)), (0, .ref b)] [.int (nI q)] ν1 := by
    intro q ν1 v ν2 c1 s1 q4 e2 e3 e4 e5 hc hs
    refine g_istore C (i := 5) (lv' := (5, .int (nI q)) :: [(4, .int (nI i)), (3, .ref (za Z 145)), (2, .ref (za Z 139)), (1, .ref (za Z 0)), (0, .ref b)]) (dk kA6 8 rfl) (by decide) rfl ?_
    refine g_aload_n C (i := 2) 3 rfl rfl (dk kA6 9 rfl) ?_
    refine g_arg H (i := i) (n := 1) (v := 1) 5 1 (by decide) (by rw [L1, nI_add]) (by omega) rfl rfl (dk kA6 10 rfl) (dk kA6 11 rfl) (dk kA6 12 rfl) (dk kA6 13 rfl) (dk kA6 14 rfl) ?_
    refine g_callV C E (As := [.int (sx (i + 1))]) (rest := []) 1 (ct_X8_cool (r := v) (μ' := ν2) k6 (by rw [hK]; exact e2)) (tb5 (List.mem_of_getElem? (i := 101) rfl) rfl) ⟨(tb5 (List.mem_of_getElem? (i := 102) rfl) rfl), (tb5 (List.mem_of_getElem? (i := 103) rfl) rfl), (tb1 (List.mem_of_getElem? (i := 10) rfl) rfl), (tb5 (List.mem_of_getElem? (i := 104) rfl) rfl)⟩ ⟨rfl, by decide, by decide, by decide⟩ rfl (by decide) k6 (by decide) rfl rfl (Nat.le_of_ble_eq_true rfl) ⟨by show c1 + 0 ≤ _; omega, by show s1 + 0 ≤ _; omega⟩ (dk kA6 15 rfl) ?_
    refine g_istore C (i := 6) (lv' := (6, .int v) :: (5, .int (nI q)) :: [(4, .int (nI i)), (3, .ref (za Z 145)), (2, .ref (za Z 139)), (1, .ref (za Z 0)), (0, .ref b)]) (dk kA6 16 rfl) (by decide) rfl ?_
    refine g_aload_n C (i := 2) 4 rfl rfl (dk kA6 17 rfl) ?_
    refine g_callV C E (As := []) (rest := []) 0 (ct_X8_thrown (r := nI q) (μ := ν2) k6 (by rw [← e3]; rfl)) (tb5 (List.mem_of_getElem? (i := 37) rfl) rfl) ⟨(tb5 (List.mem_of_getElem? (i := 38) rfl) rfl), (tb5 (List.mem_of_getElem? (i := 39) rfl) rfl), (tb1 (List.mem_of_getElem? (i := 10) rfl) rfl), (tb5 (List.mem_of_getElem? (i := 40) rfl) rfl)⟩ ⟨rfl, by decide, by decide, by decide⟩ rfl (by decide) k6 (by decide) rfl rfl (Nat.le_of_ble_eq_true rfl) ⟨by show c1 + 0 + 0 ≤ _; omega, by show s1 + 0 + 0 ≤ _; omega⟩ (dk kA6 18 rfl) ?_
    refine g_iload C (i := 5) 1 rfl (dk kA6 19 rfl) ?_
    refine g_icmp_eq C (tgt := 524) (dk kA6 20 rfl) (by decide) (fun _ => ?_) (fun z => absurd rfl z)
    refine g_iload C (i := 5) 1 rfl (dk kA6 23 rfl) ?_
    have last : G Z X 7 (c1 + 0 + 0) (s1 + 0 + 0) 541 ((6, .int v) :: (5, .int (nI q)) :: [(4, .int (nI i)), (3, .ref (za Z 145)), (2, .ref (za Z 139)), (1, .ref (za Z 0)), (0, .ref b)]) [] ν2 := by
      refine g_goto C (tgt := 1741) (dk kA6 34 rfl) (by decide) ?_
      refine g_sub [2, 3, 4, 5, 6] (lv' := lvL Z b i) rfl ?_
      exact w_tail H (g_widen (c1 := cells + 1) (s1 := slots + 6) (by omega) (by omega) (k ν2 e5))
    refine g_if_ne C (tgt := 541) (dk kA6 24 rfl) (by decide) (fun _ => last) (fun z => ?_)
    have q0 : q = 0 := by
      have z : nI q = nI 0 := z
      rwa [eqN (by omega) (by omega)] at z
    refine g_aload_n C (i := 3) 3 rfl rfl (dk kA6 25 rfl) ?_
    refine g_iconst C (v := 0) (by decide) (dk kA6 26 rfl) ?_
    refine g_lald C k12 (by rw [kl]; decide) (dk kA6 27 rfl) ?_
    refine g_iload C (i := 6) 0 rfl (dk kA6 28 rfl) ?_
    refine g_i2l C (dk kA6 29 rfl) ?_
    refine g_lcmp C (dk kA6 30 rfl) ?_
    refine g_if_eq C (tgt := 541) (dk kA6 31 rfl) (by decide) (fun _ => last) (fun z => absurd (lcmp_0 (e4 q0)) z)
  have k12' : (zk Z 145).1 = 12 := k12
  refine g_aload_n C (i := 1) 3 rfl rfl (dk kA6 0 rfl) ?_
  refine g_arg H (i := i) (n := 1) (v := 1) 4 0 (by decide) (by rw [L1, nI_add]) (by omega) rfl rfl (dk kA6 1 rfl) (dk kA6 2 rfl) (dk kA6 3 rfl) (dk kA6 4 rfl) (dk kA6 5 rfl) ?_
  refine g_aload_n C (i := 3) 1 rfl rfl (dk kA6 6 rfl) ?_
  rcases l_cool hν (sx (i + 1)) with ⟨ν1, v, ν2, e1, e2, e3, e4, e5⟩ | ⟨ck, ν1, w, ν2, hm, e1, e2, e3, e5⟩
  · exact g_callSW C E (As := [.ref (za Z 0), .int (sx (i + 1)), .ref (za Z 145)]) (rest := []) 3 (ct_L_cool (r := 0) (μ' := ν1) k0 k12 (by rw [hK]; exact e1)) (tb4 (List.mem_of_getElem? (i := 67) rfl) rfl) ⟨(tb4 (List.mem_of_getElem? (i := 68) rfl) rfl), (tb1 (List.mem_of_getElem? (i := 0) rfl) rfl), (tb4 (List.mem_of_getElem? (i := 69) rfl) rfl)⟩ ⟨by decide, by decide, by decide⟩ rfl (by decide) rfl (Nat.le_of_ble_eq_true rfl) ⟨by show cells + 0 ≤ _; omega, by show slots + 0 ≤ _; omega⟩ (dk kA6 7 rfl) (fin 0 ν1 v ν2 (cells + 0) (slots + 0) (by omega) e2 e3 (fun _ => e4) e5 (by omega) (by omega))
  · rcases List.mem_cons.mp hm with rfl | hm
    · exact g_callSW C E (As := [.ref (za Z 0), .int (sx (i + 1)), .ref (za Z 145)]) (rest := []) 3 (ctx2_L_cool (μ9 := ν1) k0 k12 H.2.2.2.1 (by rw [hK]; exact e1)) (tb4 (List.mem_of_getElem? (i := 67) rfl) rfl) ⟨(tb4 (List.mem_of_getElem? (i := 68) rfl) rfl), (tb1 (List.mem_of_getElem? (i := 0) rfl) rfl), (tb4 (List.mem_of_getElem? (i := 69) rfl) rfl)⟩ ⟨by decide, by decide, by decide⟩ rfl (by decide) rfl (Nat.le_of_ble_eq_true rfl) ⟨hcs.1, hcs.2⟩ (dk kA6 7 rfl) (fin 1 ν1 w ν2 (cells + 1) (slots + 6) (by omega) e2 e3 (fun z => absurd z (by decide)) e5 (by omega) (by omega))
    · exact absurd hm List.not_mem_nil
set_option maxRecDepth 100000 in
set_option maxHeartbeats 4000000 in
theorem w_addCustomer (H : LX l Z X b L sx) {i : Nat} {ν : Mm} (hν : IV ν ν) (hi : i + 3 < L) (hcs : cells + 1 ≤ 601024 ∧ slots + 6 ≤ 7293034) (k : ∀ ν2, IV ν2 ν2 → G Z X 7 (cells + 1) (slots + 6) 23 (lvL Z b (i + 4)) [] ν2) : G Z X 7 cells slots 544 (lvL Z b i) [] ν := by
  have C := H.1
  have E := H.2.1
  have hK := H.2.2.1
  obtain ⟨k0, k6, k12, kl⟩ := Hk H
  have fin : ∀ (q : Nat) ν1 v ν2 c1 s1, q < 4 → f_X8_addCustomer KF ν1 139 = some (v, ν2) → ν2.1 139 7 = nI q → (q = 0 → ν2.2.2 145 0 = Int32.toInt64 v) → IV ν2 ν2 → c1 ≤ cells + 1 → s1 ≤ slots + 6 → G Z X 7 c1 s1 549 [(4, .int (nI i)), (3, .ref (za Z 145)), (2, .ref (za Z 139)), (1, .ref (za Z 0)), (0, .ref b)] [.int (nI q)] ν1 := by
    intro q ν1 v ν2 c1 s1 q4 e2 e3 e4 e5 hc hs
    refine g_istore C (i := 5) (lv' := (5, .int (nI q)) :: [(4, .int (nI i)), (3, .ref (za Z 145)), (2, .ref (za Z 139)), (1, .ref (za Z 0)), (0, .ref b)]) (dk kA6 38 rfl) (by decide) rfl ?_
    refine g_aload_n C (i := 2) 3 rfl rfl (dk kA6 39 rfl) ?_
    refine g_callV C E (As := []) (rest := []) 0 (ct_X8_addCustomer (r := v) (μ' := ν2) k6 (by rw [hK]; exact e2)) (tb5 (List.mem_of_getElem? (i := 108) rfl) rfl) ⟨(tb5 (List.mem_of_getElem? (i := 109) rfl) rfl), (tb5 (List.mem_of_getElem? (i := 110) rfl) rfl), (tb1 (List.mem_of_getElem? (i := 10) rfl) rfl), (tb5 (List.mem_of_getElem? (i := 111) rfl) rfl)⟩ ⟨rfl, by decide, by decide, by decide⟩ rfl (by decide) k6 (by decide) rfl rfl (Nat.le_of_ble_eq_true rfl) ⟨by show c1 + 0 ≤ _; omega, by show s1 + 0 ≤ _; omega⟩ (dk kA7 0 rfl) ?_
    refine g_istore C (i := 6) (lv' := (6, .int v) :: (5, .int (nI q)) :: [(4, .int (nI i)), (3, .ref (za Z 145)), (2, .ref (za Z 139)), (1, .ref (za Z 0)), (0, .ref b)]) (dk kA7 1 rfl) (by decide) rfl ?_
    refine g_aload_n C (i := 2) 4 rfl rfl (dk kA7 2 rfl) ?_
    refine g_callV C E (As := []) (rest := []) 0 (ct_X8_thrown (r := nI q) (μ := ν2) k6 (by rw [← e3]; rfl)) (tb5 (List.mem_of_getElem? (i := 37) rfl) rfl) ⟨(tb5 (List.mem_of_getElem? (i := 38) rfl) rfl), (tb5 (List.mem_of_getElem? (i := 39) rfl) rfl), (tb1 (List.mem_of_getElem? (i := 10) rfl) rfl), (tb5 (List.mem_of_getElem? (i := 40) rfl) rfl)⟩ ⟨rfl, by decide, by decide, by decide⟩ rfl (by decide) k6 (by decide) rfl rfl (Nat.le_of_ble_eq_true rfl) ⟨by show c1 + 0 + 0 ≤ _; omega, by show s1 + 0 + 0 ≤ _; omega⟩ (dk kA7 3 rfl) ?_
    refine g_iload C (i := 5) 1 rfl (dk kA7 4 rfl) ?_
    refine g_icmp_eq C (tgt := 568) (dk kA7 5 rfl) (by decide) (fun _ => ?_) (fun z => absurd rfl z)
    refine g_iload C (i := 5) 1 rfl (dk kA7 8 rfl) ?_
    have last : G Z X 7 (c1 + 0 + 0) (s1 + 0 + 0) 585 ((6, .int v) :: (5, .int (nI q)) :: [(4, .int (nI i)), (3, .ref (za Z 145)), (2, .ref (za Z 139)), (1, .ref (za Z 0)), (0, .ref b)]) [] ν2 := by
      refine g_goto C (tgt := 1741) (dk kA7 19 rfl) (by decide) ?_
      refine g_sub [2, 3, 4, 5, 6] (lv' := lvL Z b i) rfl ?_
      exact w_tail H (g_widen (c1 := cells + 1) (s1 := slots + 6) (by omega) (by omega) (k ν2 e5))
    refine g_if_ne C (tgt := 585) (dk kA7 9 rfl) (by decide) (fun _ => last) (fun z => ?_)
    have q0 : q = 0 := by
      have z : nI q = nI 0 := z
      rwa [eqN (by omega) (by omega)] at z
    refine g_aload_n C (i := 3) 3 rfl rfl (dk kA7 10 rfl) ?_
    refine g_iconst C (v := 0) (by decide) (dk kA7 11 rfl) ?_
    refine g_lald C k12 (by rw [kl]; decide) (dk kA7 12 rfl) ?_
    refine g_iload C (i := 6) 0 rfl (dk kA7 13 rfl) ?_
    refine g_i2l C (dk kA7 14 rfl) ?_
    refine g_lcmp C (dk kA7 15 rfl) ?_
    refine g_if_eq C (tgt := 585) (dk kA7 16 rfl) (by decide) (fun _ => last) (fun z => absurd (lcmp_0 (e4 q0)) z)
  have k12' : (zk Z 145).1 = 12 := k12
  refine g_aload_n C (i := 1) 3 rfl rfl (dk kA6 35 rfl) ?_
  refine g_aload_n C (i := 3) 1 rfl rfl (dk kA6 36 rfl) ?_
  rcases l_addCustomer hν with ⟨ν1, v, ν2, e1, e2, e3, e4, e5⟩ | ⟨ck, ν1, w, ν2, hm, e1, e2, e3, e5⟩
  · exact g_callSW C E (As := [.ref (za Z 0), .ref (za Z 145)]) (rest := []) 2 (ct_L_addCustomer (r := 0) (μ' := ν1) k0 k12 (by rw [hK]; exact e1)) (tb4 (List.mem_of_getElem? (i := 76) rfl) rfl) ⟨(tb4 (List.mem_of_getElem? (i := 77) rfl) rfl), (tb1 (List.mem_of_getElem? (i := 0) rfl) rfl), (tb4 (List.mem_of_getElem? (i := 78) rfl) rfl)⟩ ⟨by decide, by decide, by decide⟩ rfl (by decide) rfl (Nat.le_of_ble_eq_true rfl) ⟨by show cells + 0 ≤ _; omega, by show slots + 0 ≤ _; omega⟩ (dk kA6 37 rfl) (fin 0 ν1 v ν2 (cells + 0) (slots + 0) (by omega) e2 e3 (fun _ => e4) e5 (by omega) (by omega))
  · rcases List.mem_cons.mp hm with rfl | hm
    · exact g_callSW C E (As := [.ref (za Z 0), .ref (za Z 145)]) (rest := []) 2 (ctx3_L_addCustomer (μ9 := ν1) k0 k12 H.2.2.2.1 (by rw [hK]; exact e1)) (tb4 (List.mem_of_getElem? (i := 76) rfl) rfl) ⟨(tb4 (List.mem_of_getElem? (i := 77) rfl) rfl), (tb1 (List.mem_of_getElem? (i := 0) rfl) rfl), (tb4 (List.mem_of_getElem? (i := 78) rfl) rfl)⟩ ⟨by decide, by decide, by decide⟩ rfl (by decide) rfl (Nat.le_of_ble_eq_true rfl) ⟨hcs.1, hcs.2⟩ (dk kA6 37 rfl) (fin 1 ν1 w ν2 (cells + 1) (slots + 6) (by omega) e2 e3 (fun z => absurd z (by decide)) e5 (by omega) (by omega))
    · exact absurd hm List.not_mem_nil
set_option maxRecDepth 100000 in
set_option maxHeartbeats 4000000 in
theorem w_rent (H : LX l Z X b L sx) {i : Nat} {ν : Mm} (hν : IV ν ν) (hi : i + 3 < L) (hcs : cells + 1 ≤ 601024 ∧ slots + 6 ≤ 7293034) (k : ∀ ν2, IV ν2 ν2 → G Z X 7 (cells + 1) (slots + 6) 23 (lvL Z b (i + 4)) [] ν2) : G Z X 7 cells slots 588 (lvL Z b i) [] ν := by
  have C := H.1
  have E := H.2.1
  have hK := H.2.2.1
  obtain ⟨k0, k6, k12, kl⟩ := Hk H
  have fin : ∀ (q : Nat) ν1 v ν2 c1 s1, q < 4 → f_X8_rent KF ν1 139 (sx (i + 1)) (sx (i + 2)) (sx (i + 3)) = some (v, ν2) → ν2.1 139 7 = nI q → (q = 0 → ν2.2.2 145 0 = Int32.toInt64 v) → IV ν2 ν2 → c1 ≤ cells + 1 → s1 ≤ slots + 6 → G Z X 7 c1 s1 611 [(4, .int (nI i)), (3, .ref (za Z 145)), (2, .ref (za Z 139)), (1, .ref (za Z 0)), (0, .ref b)] [.int (nI q)] ν1 := by
    intro q ν1 v ν2 c1 s1 q4 e2 e3 e4 e5 hc hs
    refine g_istore C (i := 5) (lv' := (5, .int (nI q)) :: [(4, .int (nI i)), (3, .ref (za Z 145)), (2, .ref (za Z 139)), (1, .ref (za Z 0)), (0, .ref b)]) (dk kA7 38 rfl) (by decide) rfl ?_
    refine g_aload_n C (i := 2) 3 rfl rfl (dk kA7 39 rfl) ?_
    refine g_arg H (i := i) (n := 1) (v := 1) 5 1 (by decide) (by rw [L1, nI_add]) (by omega) rfl rfl (dk kA8 0 rfl) (dk kA8 1 rfl) (dk kA8 2 rfl) (dk kA8 3 rfl) (dk kA8 4 rfl) ?_
    refine g_arg H (i := i) (n := 2) (v := 2) 5 1 (by decide) (by rw [L2, nI_add]) (by omega) rfl rfl (dk kA8 5 rfl) (dk kA8 6 rfl) (dk kA8 7 rfl) (dk kA8 8 rfl) (dk kA8 9 rfl) ?_
    refine g_arg H (i := i) (n := 3) (v := 3) 5 1 (by decide) (by rw [L3, nI_add]) (by omega) rfl rfl (dk kA8 10 rfl) (dk kA8 11 rfl) (dk kA8 12 rfl) (dk kA8 13 rfl) (dk kA8 14 rfl) ?_
    refine g_callV C E (As := [.int (sx (i + 1)), .int (sx (i + 2)), .int (sx (i + 3))]) (rest := []) 3 (ct_X8_rent (r := v) (μ' := ν2) k6 (by rw [hK]; exact e2)) (tb5 (List.mem_of_getElem? (i := 112) rfl) rfl) ⟨(tb5 (List.mem_of_getElem? (i := 113) rfl) rfl), (tb5 (List.mem_of_getElem? (i := 114) rfl) rfl), (tb1 (List.mem_of_getElem? (i := 10) rfl) rfl), (tb5 (List.mem_of_getElem? (i := 115) rfl) rfl)⟩ ⟨rfl, by decide, by decide, by decide⟩ rfl (by decide) k6 (by decide) rfl rfl (Nat.le_of_ble_eq_true rfl) ⟨by show c1 + 0 ≤ _; omega, by show s1 + 0 ≤ _; omega⟩ (dk kA8 15 rfl) ?_
    refine g_istore C (i := 6) (lv' := (6, .int v) :: (5, .int (nI q)) :: [(4, .int (nI i)), (3, .ref (za Z 145)), (2, .ref (za Z 139)), (1, .ref (za Z 0)), (0, .ref b)]) (dk kA8 16 rfl) (by decide) rfl ?_
    refine g_aload_n C (i := 2) 4 rfl rfl (dk kA8 17 rfl) ?_
    refine g_callV C E (As := []) (rest := []) 0 (ct_X8_thrown (r := nI q) (μ := ν2) k6 (by rw [← e3]; rfl)) (tb5 (List.mem_of_getElem? (i := 37) rfl) rfl) ⟨(tb5 (List.mem_of_getElem? (i := 38) rfl) rfl), (tb5 (List.mem_of_getElem? (i := 39) rfl) rfl), (tb1 (List.mem_of_getElem? (i := 10) rfl) rfl), (tb5 (List.mem_of_getElem? (i := 40) rfl) rfl)⟩ ⟨rfl, by decide, by decide, by decide⟩ rfl (by decide) k6 (by decide) rfl rfl (Nat.le_of_ble_eq_true rfl) ⟨by show c1 + 0 + 0 ≤ _; omega, by show s1 + 0 + 0 ≤ _; omega⟩ (dk kA8 18 rfl) ?_
    refine g_iload C (i := 5) 1 rfl (dk kA8 19 rfl) ?_
    refine g_icmp_eq C (tgt := 648) (dk kA8 20 rfl) (by decide) (fun _ => ?_) (fun z => absurd rfl z)
    refine g_iload C (i := 5) 1 rfl (dk kA8 23 rfl) ?_
    have last : G Z X 7 (c1 + 0 + 0) (s1 + 0 + 0) 665 ((6, .int v) :: (5, .int (nI q)) :: [(4, .int (nI i)), (3, .ref (za Z 145)), (2, .ref (za Z 139)), (1, .ref (za Z 0)), (0, .ref b)]) [] ν2 := by
      refine g_goto C (tgt := 1741) (dk kA8 34 rfl) (by decide) ?_
      refine g_sub [2, 3, 4, 5, 6] (lv' := lvL Z b i) rfl ?_
      exact w_tail H (g_widen (c1 := cells + 1) (s1 := slots + 6) (by omega) (by omega) (k ν2 e5))
    refine g_if_ne C (tgt := 665) (dk kA8 24 rfl) (by decide) (fun _ => last) (fun z => ?_)
    have q0 : q = 0 := by
      have z : nI q = nI 0 := z
      rwa [eqN (by omega) (by omega)] at z
    refine g_aload_n C (i := 3) 3 rfl rfl (dk kA8 25 rfl) ?_
    refine g_iconst C (v := 0) (by decide) (dk kA8 26 rfl) ?_
    refine g_lald C k12 (by rw [kl]; decide) (dk kA8 27 rfl) ?_
    refine g_iload C (i := 6) 0 rfl (dk kA8 28 rfl) ?_
    refine g_i2l C (dk kA8 29 rfl) ?_
    refine g_lcmp C (dk kA8 30 rfl) ?_
    refine g_if_eq C (tgt := 665) (dk kA8 31 rfl) (by decide) (fun _ => last) (fun z => absurd (lcmp_0 (e4 q0)) z)
  have k12' : (zk Z 145).1 = 12 := k12
  refine g_aload_n C (i := 1) 3 rfl rfl (dk kA7 20 rfl) ?_
  refine g_arg H (i := i) (n := 1) (v := 1) 4 0 (by decide) (by rw [L1, nI_add]) (by omega) rfl rfl (dk kA7 21 rfl) (dk kA7 22 rfl) (dk kA7 23 rfl) (dk kA7 24 rfl) (dk kA7 25 rfl) ?_
  refine g_arg H (i := i) (n := 2) (v := 2) 4 0 (by decide) (by rw [L2, nI_add]) (by omega) rfl rfl (dk kA7 26 rfl) (dk kA7 27 rfl) (dk kA7 28 rfl) (dk kA7 29 rfl) (dk kA7 30 rfl) ?_
  refine g_arg H (i := i) (n := 3) (v := 3) 4 0 (by decide) (by rw [L3, nI_add]) (by omega) rfl rfl (dk kA7 31 rfl) (dk kA7 32 rfl) (dk kA7 33 rfl) (dk kA7 34 rfl) (dk kA7 35 rfl) ?_
  refine g_aload_n C (i := 3) 1 rfl rfl (dk kA7 36 rfl) ?_
  rcases l_rent hν (sx (i + 1)) (sx (i + 2)) (sx (i + 3)) with ⟨ν1, v, ν2, e1, e2, e3, e4, e5⟩ | ⟨ck, ν1, w, ν2, hm, e1, e2, e3, e5⟩
  · exact g_callSW C E (As := [.ref (za Z 0), .int (sx (i + 1)), .int (sx (i + 2)), .int (sx (i + 3)), .ref (za Z 145)]) (rest := []) 5 (ct_L_rent (r := 0) (μ' := ν1) k0 k12 (by rw [hK]; exact e1)) (tb4 (List.mem_of_getElem? (i := 85) rfl) rfl) ⟨(tb4 (List.mem_of_getElem? (i := 86) rfl) rfl), (tb1 (List.mem_of_getElem? (i := 0) rfl) rfl), (tb4 (List.mem_of_getElem? (i := 87) rfl) rfl)⟩ ⟨by decide, by decide, by decide⟩ rfl (by decide) rfl (Nat.le_of_ble_eq_true rfl) ⟨by show cells + 0 ≤ _; omega, by show slots + 0 ≤ _; omega⟩ (dk kA7 37 rfl) (fin 0 ν1 v ν2 (cells + 0) (slots + 0) (by omega) e2 e3 (fun _ => e4) e5 (by omega) (by omega))
  · rcases List.mem_cons.mp hm with rfl | hm
    · exact g_callSW C E (As := [.ref (za Z 0), .int (sx (i + 1)), .int (sx (i + 2)), .int (sx (i + 3)), .ref (za Z 145)]) (rest := []) 5 (ctx1_L_rent (μ9 := ν1) k0 k12 H.2.2.2.1 (by rw [hK]; exact e1)) (tb4 (List.mem_of_getElem? (i := 85) rfl) rfl) ⟨(tb4 (List.mem_of_getElem? (i := 86) rfl) rfl), (tb1 (List.mem_of_getElem? (i := 0) rfl) rfl), (tb4 (List.mem_of_getElem? (i := 87) rfl) rfl)⟩ ⟨by decide, by decide, by decide⟩ rfl (by decide) rfl (Nat.le_of_ble_eq_true rfl) ⟨hcs.1, hcs.2⟩ (dk kA7 37 rfl) (fin 1 ν1 w ν2 (cells + 1) (slots + 6) (by omega) e2 e3 (fun z => absurd z (by decide)) e5 (by omega) (by omega))
    · rcases List.mem_cons.mp hm with rfl | hm
      · exact g_callSW C E (As := [.ref (za Z 0), .int (sx (i + 1)), .int (sx (i + 2)), .int (sx (i + 3)), .ref (za Z 145)]) (rest := []) 5 (ctx2_L_rent (μ9 := ν1) k0 k12 H.2.2.2.1 (by rw [hK]; exact e1)) (tb4 (List.mem_of_getElem? (i := 85) rfl) rfl) ⟨(tb4 (List.mem_of_getElem? (i := 86) rfl) rfl), (tb1 (List.mem_of_getElem? (i := 0) rfl) rfl), (tb4 (List.mem_of_getElem? (i := 87) rfl) rfl)⟩ ⟨by decide, by decide, by decide⟩ rfl (by decide) rfl (Nat.le_of_ble_eq_true rfl) ⟨hcs.1, hcs.2⟩ (dk kA7 37 rfl) (fin 2 ν1 w ν2 (cells + 1) (slots + 6) (by omega) e2 e3 (fun z => absurd z (by decide)) e5 (by omega) (by omega))
      · rcases List.mem_cons.mp hm with rfl | hm
        · exact g_callSW C E (As := [.ref (za Z 0), .int (sx (i + 1)), .int (sx (i + 2)), .int (sx (i + 3)), .ref (za Z 145)]) (rest := []) 5 (ctx3_L_rent (μ9 := ν1) k0 k12 H.2.2.2.1 (by rw [hK]; exact e1)) (tb4 (List.mem_of_getElem? (i := 85) rfl) rfl) ⟨(tb4 (List.mem_of_getElem? (i := 86) rfl) rfl), (tb1 (List.mem_of_getElem? (i := 0) rfl) rfl), (tb4 (List.mem_of_getElem? (i := 87) rfl) rfl)⟩ ⟨by decide, by decide, by decide⟩ rfl (by decide) rfl (Nat.le_of_ble_eq_true rfl) ⟨hcs.1, hcs.2⟩ (dk kA7 37 rfl) (fin 3 ν1 w ν2 (cells + 1) (slots + 6) (by omega) e2 e3 (fun z => absurd z (by decide)) e5 (by omega) (by omega))
        · exact absurd hm List.not_mem_nil
set_option maxRecDepth 100000 in
set_option maxHeartbeats 4000000 in
theorem w_endRent (H : LX l Z X b L sx) {i : Nat} {ν : Mm} (hν : IV ν ν) (hi : i + 3 < L) (hcs : cells + 1 ≤ 601024 ∧ slots + 6 ≤ 7293034) (k : ∀ ν2, IV ν2 ν2 → G Z X 7 (cells + 1) (slots + 6) 23 (lvL Z b (i + 4)) [] ν2) : G Z X 7 cells slots 668 (lvL Z b i) [] ν := by
  have C := H.1
  have E := H.2.1
  have hK := H.2.2.1
  obtain ⟨k0, k6, k12, kl⟩ := Hk H
  have fin : ∀ (q : Nat) ν1 v ν2 c1 s1, q < 4 → f_X8_endRent KF ν1 139 (sx (i + 1)) = some (v, ν2) → ν2.1 139 7 = nI q → (q = 0 → ν2.2.2 145 0 = Int32.toInt64 v) → IV ν2 ν2 → c1 ≤ cells + 1 → s1 ≤ slots + 6 → G Z X 7 c1 s1 679 [(4, .int (nI i)), (3, .ref (za Z 145)), (2, .ref (za Z 139)), (1, .ref (za Z 0)), (0, .ref b)] [.int (nI q)] ν1 := by
    intro q ν1 v ν2 c1 s1 q4 e2 e3 e4 e5 hc hs
    refine g_istore C (i := 5) (lv' := (5, .int (nI q)) :: [(4, .int (nI i)), (3, .ref (za Z 145)), (2, .ref (za Z 139)), (1, .ref (za Z 0)), (0, .ref b)]) (dk kA9 3 rfl) (by decide) rfl ?_
    refine g_aload_n C (i := 2) 3 rfl rfl (dk kA9 4 rfl) ?_
    refine g_arg H (i := i) (n := 1) (v := 1) 5 1 (by decide) (by rw [L1, nI_add]) (by omega) rfl rfl (dk kA9 5 rfl) (dk kA9 6 rfl) (dk kA9 7 rfl) (dk kA9 8 rfl) (dk kA9 9 rfl) ?_
    refine g_callV C E (As := [.int (sx (i + 1))]) (rest := []) 1 (ct_X8_endRent (r := v) (μ' := ν2) k6 (by rw [hK]; exact e2)) (tb5 (List.mem_of_getElem? (i := 136) rfl) rfl) ⟨(tb5 (List.mem_of_getElem? (i := 137) rfl) rfl), (tb5 (List.mem_of_getElem? (i := 138) rfl) rfl), (tb1 (List.mem_of_getElem? (i := 10) rfl) rfl), (tb5 (List.mem_of_getElem? (i := 139) rfl) rfl)⟩ ⟨rfl, by decide, by decide, by decide⟩ rfl (by decide) k6 (by decide) rfl rfl (Nat.le_of_ble_eq_true rfl) ⟨by show c1 + 0 ≤ _; omega, by show s1 + 0 ≤ _; omega⟩ (dk kA9 10 rfl) ?_
    refine g_istore C (i := 6) (lv' := (6, .int v) :: (5, .int (nI q)) :: [(4, .int (nI i)), (3, .ref (za Z 145)), (2, .ref (za Z 139)), (1, .ref (za Z 0)), (0, .ref b)]) (dk kA9 11 rfl) (by decide) rfl ?_
    refine g_aload_n C (i := 2) 4 rfl rfl (dk kA9 12 rfl) ?_
    refine g_callV C E (As := []) (rest := []) 0 (ct_X8_thrown (r := nI q) (μ := ν2) k6 (by rw [← e3]; rfl)) (tb5 (List.mem_of_getElem? (i := 37) rfl) rfl) ⟨(tb5 (List.mem_of_getElem? (i := 38) rfl) rfl), (tb5 (List.mem_of_getElem? (i := 39) rfl) rfl), (tb1 (List.mem_of_getElem? (i := 10) rfl) rfl), (tb5 (List.mem_of_getElem? (i := 40) rfl) rfl)⟩ ⟨rfl, by decide, by decide, by decide⟩ rfl (by decide) k6 (by decide) rfl rfl (Nat.le_of_ble_eq_true rfl) ⟨by show c1 + 0 + 0 ≤ _; omega, by show s1 + 0 + 0 ≤ _; omega⟩ (dk kA9 13 rfl) ?_
    refine g_iload C (i := 5) 1 rfl (dk kA9 14 rfl) ?_
    refine g_icmp_eq C (tgt := 704) (dk kA9 15 rfl) (by decide) (fun _ => ?_) (fun z => absurd rfl z)
    refine g_iload C (i := 5) 1 rfl (dk kA9 18 rfl) ?_
    have last : G Z X 7 (c1 + 0 + 0) (s1 + 0 + 0) 721 ((6, .int v) :: (5, .int (nI q)) :: [(4, .int (nI i)), (3, .ref (za Z 145)), (2, .ref (za Z 139)), (1, .ref (za Z 0)), (0, .ref b)]) [] ν2 := by
      refine g_goto C (tgt := 1741) (dk kA9 29 rfl) (by decide) ?_
      refine g_sub [2, 3, 4, 5, 6] (lv' := lvL Z b i) rfl ?_
      exact w_tail H (g_widen (c1 := cells + 1) (s1 := slots + 6) (by omega) (by omega) (k ν2 e5))
    refine g_if_ne C (tgt := 721) (dk kA9 19 rfl) (by decide) (fun _ => last) (fun z => ?_)
    have q0 : q = 0 := by
      have z : nI q = nI 0 := z
      rwa [eqN (by omega) (by omega)] at z
    refine g_aload_n C (i := 3) 3 rfl rfl (dk kA9 20 rfl) ?_
    refine g_iconst C (v := 0) (by decide) (dk kA9 21 rfl) ?_
    refine g_lald C k12 (by rw [kl]; decide) (dk kA9 22 rfl) ?_
    refine g_iload C (i := 6) 0 rfl (dk kA9 23 rfl) ?_
    refine g_i2l C (dk kA9 24 rfl) ?_
    refine g_lcmp C (dk kA9 25 rfl) ?_
    refine g_if_eq C (tgt := 721) (dk kA9 26 rfl) (by decide) (fun _ => last) (fun z => absurd (lcmp_0 (e4 q0)) z)
  have k12' : (zk Z 145).1 = 12 := k12
  refine g_aload_n C (i := 1) 3 rfl rfl (dk kA8 35 rfl) ?_
  refine g_arg H (i := i) (n := 1) (v := 1) 4 0 (by decide) (by rw [L1, nI_add]) (by omega) rfl rfl (dk kA8 36 rfl) (dk kA8 37 rfl) (dk kA8 38 rfl) (dk kA8 39 rfl) (dk kA9 0 rfl) ?_
  refine g_aload_n C (i := 3) 1 rfl rfl (dk kA9 1 rfl) ?_
  rcases l_endRent hν (sx (i + 1)) with ⟨ν1, v, ν2, e1, e2, e3, e4, e5⟩ | ⟨ck, ν1, w, ν2, hm, e1, e2, e3, e5⟩
  · exact g_callSW C E (As := [.ref (za Z 0), .int (sx (i + 1)), .ref (za Z 145)]) (rest := []) 3 (ct_L_endRent (r := 0) (μ' := ν1) k0 k12 (by rw [hK]; exact e1)) (tb4 (List.mem_of_getElem? (i := 94) rfl) rfl) ⟨(tb4 (List.mem_of_getElem? (i := 95) rfl) rfl), (tb1 (List.mem_of_getElem? (i := 0) rfl) rfl), (tb4 (List.mem_of_getElem? (i := 96) rfl) rfl)⟩ ⟨by decide, by decide, by decide⟩ rfl (by decide) rfl (Nat.le_of_ble_eq_true rfl) ⟨by show cells + 0 ≤ _; omega, by show slots + 0 ≤ _; omega⟩ (dk kA9 2 rfl) (fin 0 ν1 v ν2 (cells + 0) (slots + 0) (by omega) e2 e3 (fun _ => e4) e5 (by omega) (by omega))
  · rcases List.mem_cons.mp hm with rfl | hm
    · exact g_callSW C E (As := [.ref (za Z 0), .int (sx (i + 1)), .ref (za Z 145)]) (rest := []) 3 (ctx1_L_endRent (μ9 := ν1) k0 k12 H.2.2.2.1 (by rw [hK]; exact e1)) (tb4 (List.mem_of_getElem? (i := 94) rfl) rfl) ⟨(tb4 (List.mem_of_getElem? (i := 95) rfl) rfl), (tb1 (List.mem_of_getElem? (i := 0) rfl) rfl), (tb4 (List.mem_of_getElem? (i := 96) rfl) rfl)⟩ ⟨by decide, by decide, by decide⟩ rfl (by decide) rfl (Nat.le_of_ble_eq_true rfl) ⟨hcs.1, hcs.2⟩ (dk kA9 2 rfl) (fin 1 ν1 w ν2 (cells + 1) (slots + 6) (by omega) e2 e3 (fun z => absurd z (by decide)) e5 (by omega) (by omega))
    · rcases List.mem_cons.mp hm with rfl | hm
      · exact g_callSW C E (As := [.ref (za Z 0), .int (sx (i + 1)), .ref (za Z 145)]) (rest := []) 3 (ctx3_L_endRent (μ9 := ν1) k0 k12 H.2.2.2.1 (by rw [hK]; exact e1)) (tb4 (List.mem_of_getElem? (i := 94) rfl) rfl) ⟨(tb4 (List.mem_of_getElem? (i := 95) rfl) rfl), (tb1 (List.mem_of_getElem? (i := 0) rfl) rfl), (tb4 (List.mem_of_getElem? (i := 96) rfl) rfl)⟩ ⟨by decide, by decide, by decide⟩ rfl (by decide) rfl (Nat.le_of_ble_eq_true rfl) ⟨hcs.1, hcs.2⟩ (dk kA9 2 rfl) (fin 2 ν1 w ν2 (cells + 1) (slots + 6) (by omega) e2 e3 (fun z => absurd z (by decide)) e5 (by omega) (by omega))
      · exact absurd hm List.not_mem_nil
set_option maxRecDepth 100000 in
set_option maxHeartbeats 4000000 in
theorem w_print (H : LX l Z X b L sx) {i : Nat} {ν : Mm} (hν : IV ν ν) (hi : i + 3 < L) (hcs : cells + 1 ≤ 601024 ∧ slots + 6 ≤ 7293034) (k : ∀ ν2, IV ν2 ν2 → G Z X 7 (cells + 1) (slots + 6) 23 (lvL Z b (i + 4)) [] ν2) : G Z X 7 cells slots 724 (lvL Z b i) [] ν := by
  have C := H.1
  have E := H.2.1
  have hK := H.2.2.1
  obtain ⟨k0, k6, k12, kl⟩ := Hk H
  have fin : ∀ (q : Nat) ν1 v ν2 c1 s1, q < 4 → f_X8_print KF ν1 139 (sx (i + 1)) (sx (i + 2)) (sx (i + 3)) = some (v, ν2) → ν2.1 139 7 = nI q → (q = 0 → ν2.2.2 145 0 = Int32.toInt64 v) → IV ν2 ν2 → c1 ≤ cells + 1 → s1 ≤ slots + 6 → G Z X 7 c1 s1 747 [(4, .int (nI i)), (3, .ref (za Z 145)), (2, .ref (za Z 139)), (1, .ref (za Z 0)), (0, .ref b)] [.int (nI q)] ν1 := by
    intro q ν1 v ν2 c1 s1 q4 e2 e3 e4 e5 hc hs
    refine g_istore C (i := 5) (lv' := (5, .int (nI q)) :: [(4, .int (nI i)), (3, .ref (za Z 145)), (2, .ref (za Z 139)), (1, .ref (za Z 0)), (0, .ref b)]) (dk kA10 8 rfl) (by decide) rfl ?_
    refine g_aload_n C (i := 2) 3 rfl rfl (dk kA10 9 rfl) ?_
    refine g_arg H (i := i) (n := 1) (v := 1) 5 1 (by decide) (by rw [L1, nI_add]) (by omega) rfl rfl (dk kA10 10 rfl) (dk kA10 11 rfl) (dk kA10 12 rfl) (dk kA10 13 rfl) (dk kA10 14 rfl) ?_
    refine g_arg H (i := i) (n := 2) (v := 2) 5 1 (by decide) (by rw [L2, nI_add]) (by omega) rfl rfl (dk kA10 15 rfl) (dk kA10 16 rfl) (dk kA10 17 rfl) (dk kA10 18 rfl) (dk kA10 19 rfl) ?_
    refine g_arg H (i := i) (n := 3) (v := 3) 5 1 (by decide) (by rw [L3, nI_add]) (by omega) rfl rfl (dk kA10 20 rfl) (dk kA10 21 rfl) (dk kA10 22 rfl) (dk kA10 23 rfl) (dk kA10 24 rfl) ?_
    refine g_callV C E (As := [.int (sx (i + 1)), .int (sx (i + 2)), .int (sx (i + 3))]) (rest := []) 3 (ct_X8_print (r := v) (μ' := ν2) k6 (by rw [hK]; exact e2)) (tb5 (List.mem_of_getElem? (i := 140) rfl) rfl) ⟨(tb5 (List.mem_of_getElem? (i := 141) rfl) rfl), (tb5 (List.mem_of_getElem? (i := 142) rfl) rfl), (tb1 (List.mem_of_getElem? (i := 10) rfl) rfl), (tb5 (List.mem_of_getElem? (i := 143) rfl) rfl)⟩ ⟨rfl, by decide, by decide, by decide⟩ rfl (by decide) k6 (by decide) rfl rfl (Nat.le_of_ble_eq_true rfl) ⟨by show c1 + 0 ≤ _; omega, by show s1 + 0 ≤ _; omega⟩ (dk kA10 25 rfl) ?_
    refine g_istore C (i := 6) (lv' := (6, .int v) :: (5, .int (nI q)) :: [(4, .int (nI i)), (3, .ref (za Z 145)), (2, .ref (za Z 139)), (1, .ref (za Z 0)), (0, .ref b)]) (dk kA10 26 rfl) (by decide) rfl ?_
    refine g_aload_n C (i := 2) 4 rfl rfl (dk kA10 27 rfl) ?_
    refine g_callV C E (As := []) (rest := []) 0 (ct_X8_thrown (r := nI q) (μ := ν2) k6 (by rw [← e3]; rfl)) (tb5 (List.mem_of_getElem? (i := 37) rfl) rfl) ⟨(tb5 (List.mem_of_getElem? (i := 38) rfl) rfl), (tb5 (List.mem_of_getElem? (i := 39) rfl) rfl), (tb1 (List.mem_of_getElem? (i := 10) rfl) rfl), (tb5 (List.mem_of_getElem? (i := 40) rfl) rfl)⟩ ⟨rfl, by decide, by decide, by decide⟩ rfl (by decide) k6 (by decide) rfl rfl (Nat.le_of_ble_eq_true rfl) ⟨by show c1 + 0 + 0 ≤ _; omega, by show s1 + 0 + 0 ≤ _; omega⟩ (dk kA10 28 rfl) ?_
    refine g_iload C (i := 5) 1 rfl (dk kA10 29 rfl) ?_
    refine g_icmp_eq C (tgt := 784) (dk kA10 30 rfl) (by decide) (fun _ => ?_) (fun z => absurd rfl z)
    refine g_iload C (i := 5) 1 rfl (dk kA10 33 rfl) ?_
    have last : G Z X 7 (c1 + 0 + 0) (s1 + 0 + 0) 801 ((6, .int v) :: (5, .int (nI q)) :: [(4, .int (nI i)), (3, .ref (za Z 145)), (2, .ref (za Z 139)), (1, .ref (za Z 0)), (0, .ref b)]) [] ν2 := by
      refine g_goto C (tgt := 1741) (dk kA11 4 rfl) (by decide) ?_
      refine g_sub [2, 3, 4, 5, 6] (lv' := lvL Z b i) rfl ?_
      exact w_tail H (g_widen (c1 := cells + 1) (s1 := slots + 6) (by omega) (by omega) (k ν2 e5))
    refine g_if_ne C (tgt := 801) (dk kA10 34 rfl) (by decide) (fun _ => last) (fun z => ?_)
    have q0 : q = 0 := by
      have z : nI q = nI 0 := z
      rwa [eqN (by omega) (by omega)] at z
    refine g_aload_n C (i := 3) 3 rfl rfl (dk kA10 35 rfl) ?_
    refine g_iconst C (v := 0) (by decide) (dk kA10 36 rfl) ?_
    refine g_lald C k12 (by rw [kl]; decide) (dk kA10 37 rfl) ?_
    refine g_iload C (i := 6) 0 rfl (dk kA10 38 rfl) ?_
    refine g_i2l C (dk kA10 39 rfl) ?_
    refine g_lcmp C (dk kA11 0 rfl) ?_
    refine g_if_eq C (tgt := 801) (dk kA11 1 rfl) (by decide) (fun _ => last) (fun z => absurd (lcmp_0 (e4 q0)) z)
  have k12' : (zk Z 145).1 = 12 := k12
  refine g_aload_n C (i := 1) 3 rfl rfl (dk kA9 30 rfl) ?_
  refine g_arg H (i := i) (n := 1) (v := 1) 4 0 (by decide) (by rw [L1, nI_add]) (by omega) rfl rfl (dk kA9 31 rfl) (dk kA9 32 rfl) (dk kA9 33 rfl) (dk kA9 34 rfl) (dk kA9 35 rfl) ?_
  refine g_arg H (i := i) (n := 2) (v := 2) 4 0 (by decide) (by rw [L2, nI_add]) (by omega) rfl rfl (dk kA9 36 rfl) (dk kA9 37 rfl) (dk kA9 38 rfl) (dk kA9 39 rfl) (dk kA10 0 rfl) ?_
  refine g_arg H (i := i) (n := 3) (v := 3) 4 0 (by decide) (by rw [L3, nI_add]) (by omega) rfl rfl (dk kA10 1 rfl) (dk kA10 2 rfl) (dk kA10 3 rfl) (dk kA10 4 rfl) (dk kA10 5 rfl) ?_
  refine g_aload_n C (i := 3) 1 rfl rfl (dk kA10 6 rfl) ?_
  rcases l_print hν (sx (i + 1)) (sx (i + 2)) (sx (i + 3)) with ⟨ν1, v, ν2, e1, e2, e3, e4, e5⟩ | ⟨ck, ν1, w, ν2, hm, e1, e2, e3, e5⟩
  · exact g_callSW C E (As := [.ref (za Z 0), .int (sx (i + 1)), .int (sx (i + 2)), .int (sx (i + 3)), .ref (za Z 145)]) (rest := []) 5 (ct_L_print (r := 0) (μ' := ν1) k0 k12 (by rw [hK]; exact e1)) (tb4 (List.mem_of_getElem? (i := 109) rfl) rfl) ⟨(tb4 (List.mem_of_getElem? (i := 110) rfl) rfl), (tb1 (List.mem_of_getElem? (i := 0) rfl) rfl), (tb4 (List.mem_of_getElem? (i := 111) rfl) rfl)⟩ ⟨by decide, by decide, by decide⟩ rfl (by decide) rfl (Nat.le_of_ble_eq_true rfl) ⟨by show cells + 0 ≤ _; omega, by show slots + 0 ≤ _; omega⟩ (dk kA10 7 rfl) (fin 0 ν1 v ν2 (cells + 0) (slots + 0) (by omega) e2 e3 (fun _ => e4) e5 (by omega) (by omega))
  · rcases List.mem_cons.mp hm with rfl | hm
    · exact g_callSW C E (As := [.ref (za Z 0), .int (sx (i + 1)), .int (sx (i + 2)), .int (sx (i + 3)), .ref (za Z 145)]) (rest := []) 5 (ctx1_L_print (μ9 := ν1) k0 k12 H.2.2.2.1 (by rw [hK]; exact e1)) (tb4 (List.mem_of_getElem? (i := 109) rfl) rfl) ⟨(tb4 (List.mem_of_getElem? (i := 110) rfl) rfl), (tb1 (List.mem_of_getElem? (i := 0) rfl) rfl), (tb4 (List.mem_of_getElem? (i := 111) rfl) rfl)⟩ ⟨by decide, by decide, by decide⟩ rfl (by decide) rfl (Nat.le_of_ble_eq_true rfl) ⟨hcs.1, hcs.2⟩ (dk kA10 7 rfl) (fin 1 ν1 w ν2 (cells + 1) (slots + 6) (by omega) e2 e3 (fun z => absurd z (by decide)) e5 (by omega) (by omega))
    · rcases List.mem_cons.mp hm with rfl | hm
      · exact g_callSW C E (As := [.ref (za Z 0), .int (sx (i + 1)), .int (sx (i + 2)), .int (sx (i + 3)), .ref (za Z 145)]) (rest := []) 5 (ctx2_L_print (μ9 := ν1) k0 k12 H.2.2.2.1 (by rw [hK]; exact e1)) (tb4 (List.mem_of_getElem? (i := 109) rfl) rfl) ⟨(tb4 (List.mem_of_getElem? (i := 110) rfl) rfl), (tb1 (List.mem_of_getElem? (i := 0) rfl) rfl), (tb4 (List.mem_of_getElem? (i := 111) rfl) rfl)⟩ ⟨by decide, by decide, by decide⟩ rfl (by decide) rfl (Nat.le_of_ble_eq_true rfl) ⟨hcs.1, hcs.2⟩ (dk kA10 7 rfl) (fin 2 ν1 w ν2 (cells + 1) (slots + 6) (by omega) e2 e3 (fun z => absurd z (by decide)) e5 (by omega) (by omega))
      · rcases List.mem_cons.mp hm with rfl | hm
        · exact g_callSW C E (As := [.ref (za Z 0), .int (sx (i + 1)), .int (sx (i + 2)), .int (sx (i + 3)), .ref (za Z 145)]) (rest := []) 5 (ctx3_L_print (μ9 := ν1) k0 k12 H.2.2.2.1 (by rw [hK]; exact e1)) (tb4 (List.mem_of_getElem? (i := 109) rfl) rfl) ⟨(tb4 (List.mem_of_getElem? (i := 110) rfl) rfl), (tb1 (List.mem_of_getElem? (i := 0) rfl) rfl), (tb4 (List.mem_of_getElem? (i := 111) rfl) rfl)⟩ ⟨by decide, by decide, by decide⟩ rfl (by decide) rfl (Nat.le_of_ble_eq_true rfl) ⟨hcs.1, hcs.2⟩ (dk kA10 7 rfl) (fin 3 ν1 w ν2 (cells + 1) (slots + 6) (by omega) e2 e3 (fun z => absurd z (by decide)) e5 (by omega) (by omega))
        · exact absurd hm List.not_mem_nil
set_option maxRecDepth 100000 in
set_option maxHeartbeats 4000000 in
theorem w_printBest (H : LX l Z X b L sx) {i : Nat} {ν : Mm} (hν : IV ν ν) (hi : i + 3 < L) (hcs : cells + 1 ≤ 601024 ∧ slots + 6 ≤ 7293034) (k : ∀ ν2, IV ν2 ν2 → G Z X 7 (cells + 1) (slots + 6) 23 (lvL Z b (i + 4)) [] ν2) : G Z X 7 cells slots 804 (lvL Z b i) [] ν := by
  have C := H.1
  have E := H.2.1
  have hK := H.2.2.1
  obtain ⟨k0, k6, k12, kl⟩ := Hk H
  have fin : ∀ (q : Nat) ν1 v ν2 c1 s1, q < 4 → f_X8_printBest KF ν1 139 (sx (i + 1)) (sx (i + 2)) = some (v, ν2) → ν2.1 139 7 = nI q → (q = 0 → ν2.2.2 145 0 = Int32.toInt64 v) → IV ν2 ν2 → c1 ≤ cells + 1 → s1 ≤ slots + 6 → G Z X 7 c1 s1 821 [(4, .int (nI i)), (3, .ref (za Z 145)), (2, .ref (za Z 139)), (1, .ref (za Z 0)), (0, .ref b)] [.int (nI q)] ν1 := by
    intro q ν1 v ν2 c1 s1 q4 e2 e3 e4 e5 hc hs
    refine g_istore C (i := 5) (lv' := (5, .int (nI q)) :: [(4, .int (nI i)), (3, .ref (za Z 145)), (2, .ref (za Z 139)), (1, .ref (za Z 0)), (0, .ref b)]) (dk kA11 18 rfl) (by decide) rfl ?_
    refine g_aload_n C (i := 2) 3 rfl rfl (dk kA11 19 rfl) ?_
    refine g_arg H (i := i) (n := 1) (v := 1) 5 1 (by decide) (by rw [L1, nI_add]) (by omega) rfl rfl (dk kA11 20 rfl) (dk kA11 21 rfl) (dk kA11 22 rfl) (dk kA11 23 rfl) (dk kA11 24 rfl) ?_
    refine g_arg H (i := i) (n := 2) (v := 2) 5 1 (by decide) (by rw [L2, nI_add]) (by omega) rfl rfl (dk kA11 25 rfl) (dk kA11 26 rfl) (dk kA11 27 rfl) (dk kA11 28 rfl) (dk kA11 29 rfl) ?_
    refine g_callV C E (As := [.int (sx (i + 1)), .int (sx (i + 2))]) (rest := []) 2 (ct_X8_printBest (r := v) (μ' := ν2) k6 (by rw [hK]; exact e2)) (tb5 (List.mem_of_getElem? (i := 177) rfl) rfl) ⟨(tb5 (List.mem_of_getElem? (i := 178) rfl) rfl), (tb5 (List.mem_of_getElem? (i := 179) rfl) rfl), (tb1 (List.mem_of_getElem? (i := 10) rfl) rfl), (tb5 (List.mem_of_getElem? (i := 180) rfl) rfl)⟩ ⟨rfl, by decide, by decide, by decide⟩ rfl (by decide) k6 (by decide) rfl rfl (Nat.le_of_ble_eq_true rfl) ⟨by show c1 + 0 ≤ _; omega, by show s1 + 0 ≤ _; omega⟩ (dk kA11 30 rfl) ?_
    refine g_istore C (i := 6) (lv' := (6, .int v) :: (5, .int (nI q)) :: [(4, .int (nI i)), (3, .ref (za Z 145)), (2, .ref (za Z 139)), (1, .ref (za Z 0)), (0, .ref b)]) (dk kA11 31 rfl) (by decide) rfl ?_
    refine g_aload_n C (i := 2) 4 rfl rfl (dk kA11 32 rfl) ?_
    refine g_callV C E (As := []) (rest := []) 0 (ct_X8_thrown (r := nI q) (μ := ν2) k6 (by rw [← e3]; rfl)) (tb5 (List.mem_of_getElem? (i := 37) rfl) rfl) ⟨(tb5 (List.mem_of_getElem? (i := 38) rfl) rfl), (tb5 (List.mem_of_getElem? (i := 39) rfl) rfl), (tb1 (List.mem_of_getElem? (i := 10) rfl) rfl), (tb5 (List.mem_of_getElem? (i := 40) rfl) rfl)⟩ ⟨rfl, by decide, by decide, by decide⟩ rfl (by decide) k6 (by decide) rfl rfl (Nat.le_of_ble_eq_true rfl) ⟨by show c1 + 0 + 0 ≤ _; omega, by show s1 + 0 + 0 ≤ _; omega⟩ (dk kA11 33 rfl) ?_
    refine g_iload C (i := 5) 1 rfl (dk kA11 34 rfl) ?_
    refine g_icmp_eq C (tgt := 852) (dk kA11 35 rfl) (by decide) (fun _ => ?_) (fun z => absurd rfl z)
    refine g_iload C (i := 5) 1 rfl (dk kA11 38 rfl) ?_
    have last : G Z X 7 (c1 + 0 + 0) (s1 + 0 + 0) 869 ((6, .int v) :: (5, .int (nI q)) :: [(4, .int (nI i)), (3, .ref (za Z 145)), (2, .ref (za Z 139)), (1, .ref (za Z 0)), (0, .ref b)]) [] ν2 := by
      refine g_goto C (tgt := 1741) (dk kA12 9 rfl) (by decide) ?_
      refine g_sub [2, 3, 4, 5, 6] (lv' := lvL Z b i) rfl ?_
      exact w_tail H (g_widen (c1 := cells + 1) (s1 := slots + 6) (by omega) (by omega) (k ν2 e5))
    refine g_if_ne C (tgt := 869) (dk kA11 39 rfl) (by decide) (fun _ => last) (fun z => ?_)
    have q0 : q = 0 := by
      have z : nI q = nI 0 := z
      rwa [eqN (by omega) (by omega)] at z
    refine g_aload_n C (i := 3) 3 rfl rfl (dk kA12 0 rfl) ?_
    refine g_iconst C (v := 0) (by decide) (dk kA12 1 rfl) ?_
    refine g_lald C k12 (by rw [kl]; decide) (dk kA12 2 rfl) ?_
    refine g_iload C (i := 6) 0 rfl (dk kA12 3 rfl) ?_
    refine g_i2l C (dk kA12 4 rfl) ?_
    refine g_lcmp C (dk kA12 5 rfl) ?_
    refine g_if_eq C (tgt := 869) (dk kA12 6 rfl) (by decide) (fun _ => last) (fun z => absurd (lcmp_0 (e4 q0)) z)
  have k12' : (zk Z 145).1 = 12 := k12
  refine g_aload_n C (i := 1) 3 rfl rfl (dk kA11 5 rfl) ?_
  refine g_arg H (i := i) (n := 1) (v := 1) 4 0 (by decide) (by rw [L1, nI_add]) (by omega) rfl rfl (dk kA11 6 rfl) (dk kA11 7 rfl) (dk kA11 8 rfl) (dk kA11 9 rfl) (dk kA11 10 rfl) ?_
  refine g_arg H (i := i) (n := 2) (v := 2) 4 0 (by decide) (by rw [L2, nI_add]) (by omega) rfl rfl (dk kA11 11 rfl) (dk kA11 12 rfl) (dk kA11 13 rfl) (dk kA11 14 rfl) (dk kA11 15 rfl) ?_
  refine g_aload_n C (i := 3) 1 rfl rfl (dk kA11 16 rfl) ?_
  rcases l_printBest hν (sx (i + 1)) (sx (i + 2)) with ⟨ν1, v, ν2, e1, e2, e3, e4, e5⟩ | ⟨ck, ν1, w, ν2, hm, e1, e2, e3, e5⟩
  · exact g_callSW C E (As := [.ref (za Z 0), .int (sx (i + 1)), .int (sx (i + 2)), .ref (za Z 145)]) (rest := []) 4 (ct_L_printBest (r := 0) (μ' := ν1) k0 k12 (by rw [hK]; exact e1)) (tb4 (List.mem_of_getElem? (i := 118) rfl) rfl) ⟨(tb4 (List.mem_of_getElem? (i := 119) rfl) rfl), (tb1 (List.mem_of_getElem? (i := 0) rfl) rfl), (tb4 (List.mem_of_getElem? (i := 120) rfl) rfl)⟩ ⟨by decide, by decide, by decide⟩ rfl (by decide) rfl (Nat.le_of_ble_eq_true rfl) ⟨by show cells + 0 ≤ _; omega, by show slots + 0 ≤ _; omega⟩ (dk kA11 17 rfl) (fin 0 ν1 v ν2 (cells + 0) (slots + 0) (by omega) e2 e3 (fun _ => e4) e5 (by omega) (by omega))
  · rcases List.mem_cons.mp hm with rfl | hm
    · exact g_callSW C E (As := [.ref (za Z 0), .int (sx (i + 1)), .int (sx (i + 2)), .ref (za Z 145)]) (rest := []) 4 (ctx1_L_printBest (μ9 := ν1) k0 k12 H.2.2.2.1 (by rw [hK]; exact e1)) (tb4 (List.mem_of_getElem? (i := 118) rfl) rfl) ⟨(tb4 (List.mem_of_getElem? (i := 119) rfl) rfl), (tb1 (List.mem_of_getElem? (i := 0) rfl) rfl), (tb4 (List.mem_of_getElem? (i := 120) rfl) rfl)⟩ ⟨by decide, by decide, by decide⟩ rfl (by decide) rfl (Nat.le_of_ble_eq_true rfl) ⟨hcs.1, hcs.2⟩ (dk kA11 17 rfl) (fin 1 ν1 w ν2 (cells + 1) (slots + 6) (by omega) e2 e3 (fun z => absurd z (by decide)) e5 (by omega) (by omega))
    · rcases List.mem_cons.mp hm with rfl | hm
      · exact g_callSW C E (As := [.ref (za Z 0), .int (sx (i + 1)), .int (sx (i + 2)), .ref (za Z 145)]) (rest := []) 4 (ctx3_L_printBest (μ9 := ν1) k0 k12 H.2.2.2.1 (by rw [hK]; exact e1)) (tb4 (List.mem_of_getElem? (i := 118) rfl) rfl) ⟨(tb4 (List.mem_of_getElem? (i := 119) rfl) rfl), (tb1 (List.mem_of_getElem? (i := 0) rfl) rfl), (tb4 (List.mem_of_getElem? (i := 120) rfl) rfl)⟩ ⟨by decide, by decide, by decide⟩ rfl (by decide) rfl (Nat.le_of_ble_eq_true rfl) ⟨hcs.1, hcs.2⟩ (dk kA11 17 rfl) (fin 2 ν1 w ν2 (cells + 1) (slots + 6) (by omega) e2 e3 (fun z => absurd z (by decide)) e5 (by omega) (by omega))
      · exact absurd hm List.not_mem_nil
set_option maxRecDepth 100000 in
set_option maxHeartbeats 4000000 in
theorem w_dot (H : LX l Z X b L sx) {i : Nat} {ν : Mm} (hν : IV ν ν) (hi : i + 3 < L) (hcs : cells + 1 ≤ 601024 ∧ slots + 6 ≤ 7293034) (k : ∀ ν2, IV ν2 ν2 → G Z X 7 (cells + 1) (slots + 6) 23 (lvL Z b (i + 4)) [] ν2) : G Z X 7 cells slots 872 (lvL Z b i) [] ν := by
  have C := H.1
  have E := H.2.1
  have hK := H.2.2.1
  obtain ⟨k0, k6, k12, kl⟩ := Hk H
  have fin : ∀ (q : Nat) ν1 v ν2 c1 s1, q < 4 → f_X8_dot KF ν1 139 (sx (i + 1)) (sx (i + 2)) = some (v, ν2) → ν2.1 139 7 = nI q → (q = 0 → ν2.2.2 145 0 = Int32.toInt64 v) → IV ν2 ν2 → c1 ≤ cells + 1 → s1 ≤ slots + 6 → G Z X 7 c1 s1 889 [(4, .int (nI i)), (3, .ref (za Z 145)), (2, .ref (za Z 139)), (1, .ref (za Z 0)), (0, .ref b)] [.int (nI q)] ν1 := by
    intro q ν1 v ν2 c1 s1 q4 e2 e3 e4 e5 hc hs
    refine g_istore C (i := 5) (lv' := (5, .int (nI q)) :: [(4, .int (nI i)), (3, .ref (za Z 145)), (2, .ref (za Z 139)), (1, .ref (za Z 0)), (0, .ref b)]) (dk kA12 23 rfl) (by decide) rfl ?_
    refine g_aload_n C (i := 2) 3 rfl rfl (dk kA12 24 rfl) ?_
    refine g_arg H (i := i) (n := 1) (v := 1) 5 1 (by decide) (by rw [L1, nI_add]) (by omega) rfl rfl (dk kA12 25 rfl) (dk kA12 26 rfl) (dk kA12 27 rfl) (dk kA12 28 rfl) (dk kA12 29 rfl) ?_
    refine g_arg H (i := i) (n := 2) (v := 2) 5 1 (by decide) (by rw [L2, nI_add]) (by omega) rfl rfl (dk kA12 30 rfl) (dk kA12 31 rfl) (dk kA12 32 rfl) (dk kA12 33 rfl) (dk kA12 34 rfl) ?_
    refine g_callV C E (As := [.int (sx (i + 1)), .int (sx (i + 2))]) (rest := []) 2 (ct_X8_dot (r := v) (μ' := ν2) k6 (by rw [hK]; exact e2)) (tb5 (List.mem_of_getElem? (i := 193) rfl) rfl) ⟨(tb5 (List.mem_of_getElem? (i := 194) rfl) rfl), (tb5 (List.mem_of_getElem? (i := 195) rfl) rfl), (tb1 (List.mem_of_getElem? (i := 10) rfl) rfl), (tb5 (List.mem_of_getElem? (i := 196) rfl) rfl)⟩ ⟨rfl, by decide, by decide, by decide⟩ rfl (by decide) k6 (by decide) rfl rfl (Nat.le_of_ble_eq_true rfl) ⟨by show c1 + 0 ≤ _; omega, by show s1 + 0 ≤ _; omega⟩ (dk kA12 35 rfl) ?_
    refine g_istore C (i := 6) (lv' := (6, .int v) :: (5, .int (nI q)) :: [(4, .int (nI i)), (3, .ref (za Z 145)), (2, .ref (za Z 139)), (1, .ref (za Z 0)), (0, .ref b)]) (dk kA12 36 rfl) (by decide) rfl ?_
    refine g_aload_n C (i := 2) 4 rfl rfl (dk kA12 37 rfl) ?_
    refine g_callV C E (As := []) (rest := []) 0 (ct_X8_thrown (r := nI q) (μ := ν2) k6 (by rw [← e3]; rfl)) (tb5 (List.mem_of_getElem? (i := 37) rfl) rfl) ⟨(tb5 (List.mem_of_getElem? (i := 38) rfl) rfl), (tb5 (List.mem_of_getElem? (i := 39) rfl) rfl), (tb1 (List.mem_of_getElem? (i := 10) rfl) rfl), (tb5 (List.mem_of_getElem? (i := 40) rfl) rfl)⟩ ⟨rfl, by decide, by decide, by decide⟩ rfl (by decide) k6 (by decide) rfl rfl (Nat.le_of_ble_eq_true rfl) ⟨by show c1 + 0 + 0 ≤ _; omega, by show s1 + 0 + 0 ≤ _; omega⟩ (dk kA12 38 rfl) ?_
    refine g_iload C (i := 5) 1 rfl (dk kA12 39 rfl) ?_
    refine g_icmp_eq C (tgt := 920) (dk kA13 0 rfl) (by decide) (fun _ => ?_) (fun z => absurd rfl z)
    refine g_iload C (i := 5) 1 rfl (dk kA13 3 rfl) ?_
    have last : G Z X 7 (c1 + 0 + 0) (s1 + 0 + 0) 937 ((6, .int v) :: (5, .int (nI q)) :: [(4, .int (nI i)), (3, .ref (za Z 145)), (2, .ref (za Z 139)), (1, .ref (za Z 0)), (0, .ref b)]) [] ν2 := by
      refine g_goto C (tgt := 1741) (dk kA13 14 rfl) (by decide) ?_
      refine g_sub [2, 3, 4, 5, 6] (lv' := lvL Z b i) rfl ?_
      exact w_tail H (g_widen (c1 := cells + 1) (s1 := slots + 6) (by omega) (by omega) (k ν2 e5))
    refine g_if_ne C (tgt := 937) (dk kA13 4 rfl) (by decide) (fun _ => last) (fun z => ?_)
    have q0 : q = 0 := by
      have z : nI q = nI 0 := z
      rwa [eqN (by omega) (by omega)] at z
    refine g_aload_n C (i := 3) 3 rfl rfl (dk kA13 5 rfl) ?_
    refine g_iconst C (v := 0) (by decide) (dk kA13 6 rfl) ?_
    refine g_lald C k12 (by rw [kl]; decide) (dk kA13 7 rfl) ?_
    refine g_iload C (i := 6) 0 rfl (dk kA13 8 rfl) ?_
    refine g_i2l C (dk kA13 9 rfl) ?_
    refine g_lcmp C (dk kA13 10 rfl) ?_
    refine g_if_eq C (tgt := 937) (dk kA13 11 rfl) (by decide) (fun _ => last) (fun z => absurd (lcmp_0 (e4 q0)) z)
  have k12' : (zk Z 145).1 = 12 := k12
  refine g_aload_n C (i := 1) 3 rfl rfl (dk kA12 10 rfl) ?_
  refine g_arg H (i := i) (n := 1) (v := 1) 4 0 (by decide) (by rw [L1, nI_add]) (by omega) rfl rfl (dk kA12 11 rfl) (dk kA12 12 rfl) (dk kA12 13 rfl) (dk kA12 14 rfl) (dk kA12 15 rfl) ?_
  refine g_arg H (i := i) (n := 2) (v := 2) 4 0 (by decide) (by rw [L2, nI_add]) (by omega) rfl rfl (dk kA12 16 rfl) (dk kA12 17 rfl) (dk kA12 18 rfl) (dk kA12 19 rfl) (dk kA12 20 rfl) ?_
  refine g_aload_n C (i := 3) 1 rfl rfl (dk kA12 21 rfl) ?_
  rcases l_dot hν (sx (i + 1)) (sx (i + 2)) with ⟨ν1, v, ν2, e1, e2, e3, e4, e5⟩ | ⟨ck, ν1, w, ν2, hm, e1, e2, e3, e5⟩
  · exact g_callSW C E (As := [.ref (za Z 0), .int (sx (i + 1)), .int (sx (i + 2)), .ref (za Z 145)]) (rest := []) 4 (ct_L_dot (r := 0) (μ' := ν1) k0 k12 (by rw [hK]; exact e1)) (tb4 (List.mem_of_getElem? (i := 127) rfl) rfl) ⟨(tb4 (List.mem_of_getElem? (i := 128) rfl) rfl), (tb1 (List.mem_of_getElem? (i := 0) rfl) rfl), (tb4 (List.mem_of_getElem? (i := 129) rfl) rfl)⟩ ⟨by decide, by decide, by decide⟩ rfl (by decide) rfl (Nat.le_of_ble_eq_true rfl) ⟨by show cells + 0 ≤ _; omega, by show slots + 0 ≤ _; omega⟩ (dk kA12 22 rfl) (fin 0 ν1 v ν2 (cells + 0) (slots + 0) (by omega) e2 e3 (fun _ => e4) e5 (by omega) (by omega))
  · rcases List.mem_cons.mp hm with rfl | hm
    · exact g_callSW C E (As := [.ref (za Z 0), .int (sx (i + 1)), .int (sx (i + 2)), .ref (za Z 145)]) (rest := []) 4 (ctx1_L_dot (μ9 := ν1) k0 k12 H.2.2.2.1 (by rw [hK]; exact e1)) (tb4 (List.mem_of_getElem? (i := 127) rfl) rfl) ⟨(tb4 (List.mem_of_getElem? (i := 128) rfl) rfl), (tb1 (List.mem_of_getElem? (i := 0) rfl) rfl), (tb4 (List.mem_of_getElem? (i := 129) rfl) rfl)⟩ ⟨by decide, by decide, by decide⟩ rfl (by decide) rfl (Nat.le_of_ble_eq_true rfl) ⟨hcs.1, hcs.2⟩ (dk kA12 22 rfl) (fin 1 ν1 w ν2 (cells + 1) (slots + 6) (by omega) e2 e3 (fun z => absurd z (by decide)) e5 (by omega) (by omega))
    · rcases List.mem_cons.mp hm with rfl | hm
      · exact g_callSW C E (As := [.ref (za Z 0), .int (sx (i + 1)), .int (sx (i + 2)), .ref (za Z 145)]) (rest := []) 4 (ctx2_L_dot (μ9 := ν1) k0 k12 H.2.2.2.1 (by rw [hK]; exact e1)) (tb4 (List.mem_of_getElem? (i := 127) rfl) rfl) ⟨(tb4 (List.mem_of_getElem? (i := 128) rfl) rfl), (tb1 (List.mem_of_getElem? (i := 0) rfl) rfl), (tb4 (List.mem_of_getElem? (i := 129) rfl) rfl)⟩ ⟨by decide, by decide, by decide⟩ rfl (by decide) rfl (Nat.le_of_ble_eq_true rfl) ⟨hcs.1, hcs.2⟩ (dk kA12 22 rfl) (fin 2 ν1 w ν2 (cells + 1) (slots + 6) (by omega) e2 e3 (fun z => absurd z (by decide)) e5 (by omega) (by omega))
      · exact absurd hm List.not_mem_nil
set_option maxRecDepth 100000 in
set_option maxHeartbeats 4000000 in
theorem w_label (H : LX l Z X b L sx) {i : Nat} {ν : Mm} (hν : IV ν ν) (hi : i + 3 < L) (hcs : cells + 1 ≤ 601024 ∧ slots + 6 ≤ 7293034) (k : ∀ ν2, IV ν2 ν2 → G Z X 7 (cells + 1) (slots + 6) 23 (lvL Z b (i + 4)) [] ν2) : G Z X 7 cells slots 940 (lvL Z b i) [] ν := by
  have C := H.1
  have E := H.2.1
  have hK := H.2.2.1
  obtain ⟨k0, k6, k12, kl⟩ := Hk H
  have fin : ∀ (q : Nat) ν1 v ν2 c1 s1, q < 4 → f_X8_label KF ν1 139 (sx (i + 1)) (sx (i + 2)) = some (v, ν2) → ν2.1 139 7 = nI q → (q = 0 → ν2.2.2 145 0 = Int32.toInt64 v) → IV ν2 ν2 → c1 ≤ cells + 1 → s1 ≤ slots + 6 → G Z X 7 c1 s1 957 [(4, .int (nI i)), (3, .ref (za Z 145)), (2, .ref (za Z 139)), (1, .ref (za Z 0)), (0, .ref b)] [.int (nI q)] ν1 := by
    intro q ν1 v ν2 c1 s1 q4 e2 e3 e4 e5 hc hs
    refine g_istore C (i := 5) (lv' := (5, .int (nI q)) :: [(4, .int (nI i)), (3, .ref (za Z 145)), (2, .ref (za Z 139)), (1, .ref (za Z 0)), (0, .ref b)]) (dk kA13 28 rfl) (by decide) rfl ?_
    refine g_aload_n C (i := 2) 3 rfl rfl (dk kA13 29 rfl) ?_
    refine g_arg H (i := i) (n := 1) (v := 1) 5 1 (by decide) (by rw [L1, nI_add]) (by omega) rfl rfl (dk kA13 30 rfl) (dk kA13 31 rfl) (dk kA13 32 rfl) (dk kA13 33 rfl) (dk kA13 34 rfl) ?_
    refine g_arg H (i := i) (n := 2) (v := 2) 5 1 (by decide) (by rw [L2, nI_add]) (by omega) rfl rfl (dk kA13 35 rfl) (dk kA13 36 rfl) (dk kA13 37 rfl) (dk kA13 38 rfl) (dk kA13 39 rfl) ?_
    refine g_callV C E (As := [.int (sx (i + 1)), .int (sx (i + 2))]) (rest := []) 2 (ct_X8_label (r := v) (μ' := ν2) k6 (by rw [hK]; exact e2)) (tb5 (List.mem_of_getElem? (i := 201) rfl) rfl) ⟨(tb5 (List.mem_of_getElem? (i := 202) rfl) rfl), (tb5 (List.mem_of_getElem? (i := 203) rfl) rfl), (tb1 (List.mem_of_getElem? (i := 10) rfl) rfl), (tb5 (List.mem_of_getElem? (i := 204) rfl) rfl)⟩ ⟨rfl, by decide, by decide, by decide⟩ rfl (by decide) k6 (by decide) rfl rfl (Nat.le_of_ble_eq_true rfl) ⟨by show c1 + 0 ≤ _; omega, by show s1 + 0 ≤ _; omega⟩ (dk kA14 0 rfl) ?_
    refine g_istore C (i := 6) (lv' := (6, .int v) :: (5, .int (nI q)) :: [(4, .int (nI i)), (3, .ref (za Z 145)), (2, .ref (za Z 139)), (1, .ref (za Z 0)), (0, .ref b)]) (dk kA14 1 rfl) (by decide) rfl ?_
    refine g_aload_n C (i := 2) 4 rfl rfl (dk kA14 2 rfl) ?_
    refine g_callV C E (As := []) (rest := []) 0 (ct_X8_thrown (r := nI q) (μ := ν2) k6 (by rw [← e3]; rfl)) (tb5 (List.mem_of_getElem? (i := 37) rfl) rfl) ⟨(tb5 (List.mem_of_getElem? (i := 38) rfl) rfl), (tb5 (List.mem_of_getElem? (i := 39) rfl) rfl), (tb1 (List.mem_of_getElem? (i := 10) rfl) rfl), (tb5 (List.mem_of_getElem? (i := 40) rfl) rfl)⟩ ⟨rfl, by decide, by decide, by decide⟩ rfl (by decide) k6 (by decide) rfl rfl (Nat.le_of_ble_eq_true rfl) ⟨by show c1 + 0 + 0 ≤ _; omega, by show s1 + 0 + 0 ≤ _; omega⟩ (dk kA14 3 rfl) ?_
    refine g_iload C (i := 5) 1 rfl (dk kA14 4 rfl) ?_
    refine g_icmp_eq C (tgt := 988) (dk kA14 5 rfl) (by decide) (fun _ => ?_) (fun z => absurd rfl z)
    refine g_iload C (i := 5) 1 rfl (dk kA14 8 rfl) ?_
    have last : G Z X 7 (c1 + 0 + 0) (s1 + 0 + 0) 1005 ((6, .int v) :: (5, .int (nI q)) :: [(4, .int (nI i)), (3, .ref (za Z 145)), (2, .ref (za Z 139)), (1, .ref (za Z 0)), (0, .ref b)]) [] ν2 := by
      refine g_goto C (tgt := 1741) (dk kA14 19 rfl) (by decide) ?_
      refine g_sub [2, 3, 4, 5, 6] (lv' := lvL Z b i) rfl ?_
      exact w_tail H (g_widen (c1 := cells + 1) (s1 := slots + 6) (by omega) (by omega) (k ν2 e5))
    refine g_if_ne C (tgt := 1005) (dk kA14 9 rfl) (by decide) (fun _ => last) (fun z => ?_)
    have q0 : q = 0 := by
      have z : nI q = nI 0 := z
      rwa [eqN (by omega) (by omega)] at z
    refine g_aload_n C (i := 3) 3 rfl rfl (dk kA14 10 rfl) ?_
    refine g_iconst C (v := 0) (by decide) (dk kA14 11 rfl) ?_
    refine g_lald C k12 (by rw [kl]; decide) (dk kA14 12 rfl) ?_
    refine g_iload C (i := 6) 0 rfl (dk kA14 13 rfl) ?_
    refine g_i2l C (dk kA14 14 rfl) ?_
    refine g_lcmp C (dk kA14 15 rfl) ?_
    refine g_if_eq C (tgt := 1005) (dk kA14 16 rfl) (by decide) (fun _ => last) (fun z => absurd (lcmp_0 (e4 q0)) z)
  have k12' : (zk Z 145).1 = 12 := k12
  refine g_aload_n C (i := 1) 3 rfl rfl (dk kA13 15 rfl) ?_
  refine g_arg H (i := i) (n := 1) (v := 1) 4 0 (by decide) (by rw [L1, nI_add]) (by omega) rfl rfl (dk kA13 16 rfl) (dk kA13 17 rfl) (dk kA13 18 rfl) (dk kA13 19 rfl) (dk kA13 20 rfl) ?_
  refine g_arg H (i := i) (n := 2) (v := 2) 4 0 (by decide) (by rw [L2, nI_add]) (by omega) rfl rfl (dk kA13 21 rfl) (dk kA13 22 rfl) (dk kA13 23 rfl) (dk kA13 24 rfl) (dk kA13 25 rfl) ?_
  refine g_aload_n C (i := 3) 1 rfl rfl (dk kA13 26 rfl) ?_
  rcases l_label hν (sx (i + 1)) (sx (i + 2)) with ⟨ν1, v, ν2, e1, e2, e3, e4, e5⟩ | ⟨ck, ν1, w, ν2, hm, e1, e2, e3, e5⟩
  · exact g_callSW C E (As := [.ref (za Z 0), .int (sx (i + 1)), .int (sx (i + 2)), .ref (za Z 145)]) (rest := []) 4 (ct_L_label (r := 0) (μ' := ν1) k0 k12 (by rw [hK]; exact e1)) (tb4 (List.mem_of_getElem? (i := 138) rfl) rfl) ⟨(tb4 (List.mem_of_getElem? (i := 139) rfl) rfl), (tb1 (List.mem_of_getElem? (i := 0) rfl) rfl), (tb4 (List.mem_of_getElem? (i := 140) rfl) rfl)⟩ ⟨by decide, by decide, by decide⟩ rfl (by decide) rfl (Nat.le_of_ble_eq_true rfl) ⟨by show cells + 0 ≤ _; omega, by show slots + 0 ≤ _; omega⟩ (dk kA13 27 rfl) (fin 0 ν1 v ν2 (cells + 0) (slots + 0) (by omega) e2 e3 (fun _ => e4) e5 (by omega) (by omega))
  · rcases List.mem_cons.mp hm with rfl | hm
    · exact g_callSW C E (As := [.ref (za Z 0), .int (sx (i + 1)), .int (sx (i + 2)), .ref (za Z 145)]) (rest := []) 4 (ctx1_L_label (μ9 := ν1) k0 k12 H.2.2.2.1 (by rw [hK]; exact e1)) (tb4 (List.mem_of_getElem? (i := 138) rfl) rfl) ⟨(tb4 (List.mem_of_getElem? (i := 139) rfl) rfl), (tb1 (List.mem_of_getElem? (i := 0) rfl) rfl), (tb4 (List.mem_of_getElem? (i := 140) rfl) rfl)⟩ ⟨by decide, by decide, by decide⟩ rfl (by decide) rfl (Nat.le_of_ble_eq_true rfl) ⟨hcs.1, hcs.2⟩ (dk kA13 27 rfl) (fin 1 ν1 w ν2 (cells + 1) (slots + 6) (by omega) e2 e3 (fun z => absurd z (by decide)) e5 (by omega) (by omega))
    · rcases List.mem_cons.mp hm with rfl | hm
      · exact g_callSW C E (As := [.ref (za Z 0), .int (sx (i + 1)), .int (sx (i + 2)), .ref (za Z 145)]) (rest := []) 4 (ctx2_L_label (μ9 := ν1) k0 k12 H.2.2.2.1 (by rw [hK]; exact e1)) (tb4 (List.mem_of_getElem? (i := 138) rfl) rfl) ⟨(tb4 (List.mem_of_getElem? (i := 139) rfl) rfl), (tb1 (List.mem_of_getElem? (i := 0) rfl) rfl), (tb4 (List.mem_of_getElem? (i := 140) rfl) rfl)⟩ ⟨by decide, by decide, by decide⟩ rfl (by decide) rfl (Nat.le_of_ble_eq_true rfl) ⟨hcs.1, hcs.2⟩ (dk kA13 27 rfl) (fin 2 ν1 w ν2 (cells + 1) (slots + 6) (by omega) e2 e3 (fun z => absurd z (by decide)) e5 (by omega) (by omega))
      · exact absurd hm List.not_mem_nil
set_option maxRecDepth 100000 in
set_option maxHeartbeats 4000000 in
theorem w_row (H : LX l Z X b L sx) {i : Nat} {ν : Mm} (hν : IV ν ν) (hi : i + 3 < L) (hcs : cells + 1 ≤ 601024 ∧ slots + 6 ≤ 7293034) (k : ∀ ν2, IV ν2 ν2 → G Z X 7 (cells + 1) (slots + 6) 23 (lvL Z b (i + 4)) [] ν2) : G Z X 7 cells slots 1008 (lvL Z b i) [] ν := by
  have C := H.1
  have E := H.2.1
  have hK := H.2.2.1
  obtain ⟨k0, k6, k12, kl⟩ := Hk H
  have fin : ∀ (q : Nat) ν1 v ν2 c1 s1, q < 4 → f_X8_row KF ν1 139 (sx (i + 1)) (sx (i + 2)) = some (v, ν2) → ν2.1 139 7 = nI q → (q = 0 → ν2.2.2 145 0 = Int32.toInt64 v) → IV ν2 ν2 → c1 ≤ cells + 1 → s1 ≤ slots + 6 → G Z X 7 c1 s1 1025 [(4, .int (nI i)), (3, .ref (za Z 145)), (2, .ref (za Z 139)), (1, .ref (za Z 0)), (0, .ref b)] [.int (nI q)] ν1 := by
    intro q ν1 v ν2 c1 s1 q4 e2 e3 e4 e5 hc hs
    refine g_istore C (i := 5) (lv' := (5, .int (nI q)) :: [(4, .int (nI i)), (3, .ref (za Z 145)), (2, .ref (za Z 139)), (1, .ref (za Z 0)), (0, .ref b)]) (dk kA14 33 rfl) (by decide) rfl ?_
    refine g_aload_n C (i := 2) 3 rfl rfl (dk kA14 34 rfl) ?_
    refine g_arg H (i := i) (n := 1) (v := 1) 5 1 (by decide) (by rw [L1, nI_add]) (by omega) rfl rfl (dk kA14 35 rfl) (dk kA14 36 rfl) (dk kA14 37 rfl) (dk kA14 38 rfl) (dk kA14 39 rfl) ?_
    refine g_arg H (i := i) (n := 2) (v := 2) 5 1 (by decide) (by rw [L2, nI_add]) (by omega) rfl rfl (dk kA15 0 rfl) (dk kA15 1 rfl) (dk kA15 2 rfl) (dk kA15 3 rfl) (dk kA15 4 rfl) ?_
    refine g_callV C E (As := [.int (sx (i + 1)), .int (sx (i + 2))]) (rest := []) 2 (ct_X8_row (r := v) (μ' := ν2) k6 (by rw [hK]; exact e2)) (tb5 (List.mem_of_getElem? (i := 213) rfl) rfl) ⟨(tb5 (List.mem_of_getElem? (i := 214) rfl) rfl), (tb5 (List.mem_of_getElem? (i := 215) rfl) rfl), (tb1 (List.mem_of_getElem? (i := 10) rfl) rfl), (tb5 (List.mem_of_getElem? (i := 216) rfl) rfl)⟩ ⟨rfl, by decide, by decide, by decide⟩ rfl (by decide) k6 (by decide) rfl rfl (Nat.le_of_ble_eq_true rfl) ⟨by show c1 + 0 ≤ _; omega, by show s1 + 0 ≤ _; omega⟩ (dk kA15 5 rfl) ?_
    refine g_istore C (i := 6) (lv' := (6, .int v) :: (5, .int (nI q)) :: [(4, .int (nI i)), (3, .ref (za Z 145)), (2, .ref (za Z 139)), (1, .ref (za Z 0)), (0, .ref b)]) (dk kA15 6 rfl) (by decide) rfl ?_
    refine g_aload_n C (i := 2) 4 rfl rfl (dk kA15 7 rfl) ?_
    refine g_callV C E (As := []) (rest := []) 0 (ct_X8_thrown (r := nI q) (μ := ν2) k6 (by rw [← e3]; rfl)) (tb5 (List.mem_of_getElem? (i := 37) rfl) rfl) ⟨(tb5 (List.mem_of_getElem? (i := 38) rfl) rfl), (tb5 (List.mem_of_getElem? (i := 39) rfl) rfl), (tb1 (List.mem_of_getElem? (i := 10) rfl) rfl), (tb5 (List.mem_of_getElem? (i := 40) rfl) rfl)⟩ ⟨rfl, by decide, by decide, by decide⟩ rfl (by decide) k6 (by decide) rfl rfl (Nat.le_of_ble_eq_true rfl) ⟨by show c1 + 0 + 0 ≤ _; omega, by show s1 + 0 + 0 ≤ _; omega⟩ (dk kA15 8 rfl) ?_
    refine g_iload C (i := 5) 1 rfl (dk kA15 9 rfl) ?_
    refine g_icmp_eq C (tgt := 1056) (dk kA15 10 rfl) (by decide) (fun _ => ?_) (fun z => absurd rfl z)
    refine g_iload C (i := 5) 1 rfl (dk kA15 13 rfl) ?_
    have last : G Z X 7 (c1 + 0 + 0) (s1 + 0 + 0) 1073 ((6, .int v) :: (5, .int (nI q)) :: [(4, .int (nI i)), (3, .ref (za Z 145)), (2, .ref (za Z 139)), (1, .ref (za Z 0)), (0, .ref b)]) [] ν2 := by
      refine g_goto C (tgt := 1741) (dk kA15 24 rfl) (by decide) ?_
      refine g_sub [2, 3, 4, 5, 6] (lv' := lvL Z b i) rfl ?_
      exact w_tail H (g_widen (c1 := cells + 1) (s1 := slots + 6) (by omega) (by omega) (k ν2 e5))
    refine g_if_ne C (tgt := 1073) (dk kA15 14 rfl) (by decide) (fun _ => last) (fun z => ?_)
    have q0 : q = 0 := by
      have z : nI q = nI 0 := z
      rwa [eqN (by omega) (by omega)] at z
    refine g_aload_n C (i := 3) 3 rfl rfl (dk kA15 15 rfl) ?_
    refine g_iconst C (v := 0) (by decide) (dk kA15 16 rfl) ?_
    refine g_lald C k12 (by rw [kl]; decide) (dk kA15 17 rfl) ?_
    refine g_iload C (i := 6) 0 rfl (dk kA15 18 rfl) ?_
    refine g_i2l C (dk kA15 19 rfl) ?_
    refine g_lcmp C (dk kA15 20 rfl) ?_
    refine g_if_eq C (tgt := 1073) (dk kA15 21 rfl) (by decide) (fun _ => last) (fun z => absurd (lcmp_0 (e4 q0)) z)
  have k12' : (zk Z 145).1 = 12 := k12
  refine g_aload_n C (i := 1) 3 rfl rfl (dk kA14 20 rfl) ?_
  refine g_arg H (i := i) (n := 1) (v := 1) 4 0 (by decide) (by rw [L1, nI_add]) (by omega) rfl rfl (dk kA14 21 rfl) (dk kA14 22 rfl) (dk kA14 23 rfl) (dk kA14 24 rfl) (dk kA14 25 rfl) ?_
  refine g_arg H (i := i) (n := 2) (v := 2) 4 0 (by decide) (by rw [L2, nI_add]) (by omega) rfl rfl (dk kA14 26 rfl) (dk kA14 27 rfl) (dk kA14 28 rfl) (dk kA14 29 rfl) (dk kA14 30 rfl) ?_
  refine g_aload_n C (i := 3) 1 rfl rfl (dk kA14 31 rfl) ?_
  rcases l_row hν (sx (i + 1)) (sx (i + 2)) with ⟨ν1, v, ν2, e1, e2, e3, e4, e5⟩ | ⟨ck, ν1, w, ν2, hm, e1, e2, e3, e5⟩
  · exact g_callSW C E (As := [.ref (za Z 0), .int (sx (i + 1)), .int (sx (i + 2)), .ref (za Z 145)]) (rest := []) 4 (ct_L_row (r := 0) (μ' := ν1) k0 k12 (by rw [hK]; exact e1)) (tb4 (List.mem_of_getElem? (i := 149) rfl) rfl) ⟨(tb4 (List.mem_of_getElem? (i := 150) rfl) rfl), (tb1 (List.mem_of_getElem? (i := 0) rfl) rfl), (tb4 (List.mem_of_getElem? (i := 151) rfl) rfl)⟩ ⟨by decide, by decide, by decide⟩ rfl (by decide) rfl (Nat.le_of_ble_eq_true rfl) ⟨by show cells + 0 ≤ _; omega, by show slots + 0 ≤ _; omega⟩ (dk kA14 32 rfl) (fin 0 ν1 v ν2 (cells + 0) (slots + 0) (by omega) e2 e3 (fun _ => e4) e5 (by omega) (by omega))
  · rcases List.mem_cons.mp hm with rfl | hm
    · exact g_callSW C E (As := [.ref (za Z 0), .int (sx (i + 1)), .int (sx (i + 2)), .ref (za Z 145)]) (rest := []) 4 (ctx1_L_row (μ9 := ν1) k0 k12 H.2.2.2.1 (by rw [hK]; exact e1)) (tb4 (List.mem_of_getElem? (i := 149) rfl) rfl) ⟨(tb4 (List.mem_of_getElem? (i := 150) rfl) rfl), (tb1 (List.mem_of_getElem? (i := 0) rfl) rfl), (tb4 (List.mem_of_getElem? (i := 151) rfl) rfl)⟩ ⟨by decide, by decide, by decide⟩ rfl (by decide) rfl (Nat.le_of_ble_eq_true rfl) ⟨hcs.1, hcs.2⟩ (dk kA14 32 rfl) (fin 1 ν1 w ν2 (cells + 1) (slots + 6) (by omega) e2 e3 (fun z => absurd z (by decide)) e5 (by omega) (by omega))
    · rcases List.mem_cons.mp hm with rfl | hm
      · exact g_callSW C E (As := [.ref (za Z 0), .int (sx (i + 1)), .int (sx (i + 2)), .ref (za Z 145)]) (rest := []) 4 (ctx2_L_row (μ9 := ν1) k0 k12 H.2.2.2.1 (by rw [hK]; exact e1)) (tb4 (List.mem_of_getElem? (i := 149) rfl) rfl) ⟨(tb4 (List.mem_of_getElem? (i := 150) rfl) rfl), (tb1 (List.mem_of_getElem? (i := 0) rfl) rfl), (tb4 (List.mem_of_getElem? (i := 151) rfl) rfl)⟩ ⟨by decide, by decide, by decide⟩ rfl (by decide) rfl (Nat.le_of_ble_eq_true rfl) ⟨hcs.1, hcs.2⟩ (dk kA14 32 rfl) (fin 2 ν1 w ν2 (cells + 1) (slots + 6) (by omega) e2 e3 (fun z => absurd z (by decide)) e5 (by omega) (by omega))
      · exact absurd hm List.not_mem_nil
set_option maxRecDepth 100000 in
set_option maxHeartbeats 4000000 in
theorem w_customer (H : LX l Z X b L sx) {i : Nat} {ν : Mm} (hν : IV ν ν) (hi : i + 3 < L) (hcs : cells + 1 ≤ 601024 ∧ slots + 6 ≤ 7293034) (k : ∀ ν2, IV ν2 ν2 → G Z X 7 (cells + 1) (slots + 6) 23 (lvL Z b (i + 4)) [] ν2) : G Z X 7 cells slots 1076 (lvL Z b i) [] ν := by
  have C := H.1
  have E := H.2.1
  have hK := H.2.2.1
  obtain ⟨k0, k6, k12, kl⟩ := Hk H
  have fin : ∀ (q : Nat) ν1 v ν2 c1 s1, q < 4 → f_X8_customer KF ν1 139 (sx (i + 1)) (sx (i + 2)) = some (v, ν2) → ν2.1 139 7 = nI q → (q = 0 → ν2.2.2 145 0 = Int32.toInt64 v) → IV ν2 ν2 → c1 ≤ cells + 1 → s1 ≤ slots + 6 → G Z X 7 c1 s1 1093 [(4, .int (nI i)), (3, .ref (za Z 145)), (2, .ref (za Z 139)), (1, .ref (za Z 0)), (0, .ref b)] [.int (nI q)] ν1 := by
    intro q ν1 v ν2 c1 s1 q4 e2 e3 e4 e5 hc hs
    refine g_istore C (i := 5) (lv' := (5, .int (nI q)) :: [(4, .int (nI i)), (3, .ref (za Z 145)), (2, .ref (za Z 139)), (1, .ref (za Z 0)), (0, .ref b)]) (dk kA15 38 rfl) (by decide) rfl ?_
    refine g_aload_n C (i := 2) 3 rfl rfl (dk kA15 39 rfl) ?_
    refine g_arg H (i := i) (n := 1) (v := 1) 5 1 (by decide) (by rw [L1, nI_add]) (by omega) rfl rfl (dk kA16 0 rfl) (dk kA16 1 rfl) (dk kA16 2 rfl) (dk kA16 3 rfl) (dk kA16 4 rfl) ?_
    refine g_arg H (i := i) (n := 2) (v := 2) 5 1 (by decide) (by rw [L2, nI_add]) (by omega) rfl rfl (dk kA16 5 rfl) (dk kA16 6 rfl) (dk kA16 7 rfl) (dk kA16 8 rfl) (dk kA16 9 rfl) ?_
    refine g_callV C E (As := [.int (sx (i + 1)), .int (sx (i + 2))]) (rest := []) 2 (ct_X8_customer (r := v) (μ' := ν2) k6 (by rw [hK]; exact e2)) (tb5 (List.mem_of_getElem? (i := 217) rfl) rfl) ⟨(tb5 (List.mem_of_getElem? (i := 218) rfl) rfl), (tb5 (List.mem_of_getElem? (i := 219) rfl) rfl), (tb1 (List.mem_of_getElem? (i := 10) rfl) rfl), (tb5 (List.mem_of_getElem? (i := 220) rfl) rfl)⟩ ⟨rfl, by decide, by decide, by decide⟩ rfl (by decide) k6 (by decide) rfl rfl (Nat.le_of_ble_eq_true rfl) ⟨by show c1 + 0 ≤ _; omega, by show s1 + 0 ≤ _; omega⟩ (dk kA16 10 rfl) ?_
    refine g_istore C (i := 6) (lv' := (6, .int v) :: (5, .int (nI q)) :: [(4, .int (nI i)), (3, .ref (za Z 145)), (2, .ref (za Z 139)), (1, .ref (za Z 0)), (0, .ref b)]) (dk kA16 11 rfl) (by decide) rfl ?_
    refine g_aload_n C (i := 2) 4 rfl rfl (dk kA16 12 rfl) ?_
    refine g_callV C E (As := []) (rest := []) 0 (ct_X8_thrown (r := nI q) (μ := ν2) k6 (by rw [← e3]; rfl)) (tb5 (List.mem_of_getElem? (i := 37) rfl) rfl) ⟨(tb5 (List.mem_of_getElem? (i := 38) rfl) rfl), (tb5 (List.mem_of_getElem? (i := 39) rfl) rfl), (tb1 (List.mem_of_getElem? (i := 10) rfl) rfl), (tb5 (List.mem_of_getElem? (i := 40) rfl) rfl)⟩ ⟨rfl, by decide, by decide, by decide⟩ rfl (by decide) k6 (by decide) rfl rfl (Nat.le_of_ble_eq_true rfl) ⟨by show c1 + 0 + 0 ≤ _; omega, by show s1 + 0 + 0 ≤ _; omega⟩ (dk kA16 13 rfl) ?_
    refine g_iload C (i := 5) 1 rfl (dk kA16 14 rfl) ?_
    refine g_icmp_eq C (tgt := 1124) (dk kA16 15 rfl) (by decide) (fun _ => ?_) (fun z => absurd rfl z)
    refine g_iload C (i := 5) 1 rfl (dk kA16 18 rfl) ?_
    have last : G Z X 7 (c1 + 0 + 0) (s1 + 0 + 0) 1141 ((6, .int v) :: (5, .int (nI q)) :: [(4, .int (nI i)), (3, .ref (za Z 145)), (2, .ref (za Z 139)), (1, .ref (za Z 0)), (0, .ref b)]) [] ν2 := by
      refine g_goto C (tgt := 1741) (dk kA16 29 rfl) (by decide) ?_
      refine g_sub [2, 3, 4, 5, 6] (lv' := lvL Z b i) rfl ?_
      exact w_tail H (g_widen (c1 := cells + 1) (s1 := slots + 6) (by omega) (by omega) (k ν2 e5))
    refine g_if_ne C (tgt := 1141) (dk kA16 19 rfl) (by decide) (fun _ => last) (fun z => ?_)
    have q0 : q = 0 := by
      have z : nI q = nI 0 := z
      rwa [eqN (by omega) (by omega)] at z
    refine g_aload_n C (i := 3) 3 rfl rfl (dk kA16 20 rfl) ?_
    refine g_iconst C (v := 0) (by decide) (dk kA16 21 rfl) ?_
    refine g_lald C k12 (by rw [kl]; decide) (dk kA16 22 rfl) ?_
    refine g_iload C (i := 6) 0 rfl (dk kA16 23 rfl) ?_
    refine g_i2l C (dk kA16 24 rfl) ?_
    refine g_lcmp C (dk kA16 25 rfl) ?_
    refine g_if_eq C (tgt := 1141) (dk kA16 26 rfl) (by decide) (fun _ => last) (fun z => absurd (lcmp_0 (e4 q0)) z)
  have k12' : (zk Z 145).1 = 12 := k12
  refine g_aload_n C (i := 1) 3 rfl rfl (dk kA15 25 rfl) ?_
  refine g_arg H (i := i) (n := 1) (v := 1) 4 0 (by decide) (by rw [L1, nI_add]) (by omega) rfl rfl (dk kA15 26 rfl) (dk kA15 27 rfl) (dk kA15 28 rfl) (dk kA15 29 rfl) (dk kA15 30 rfl) ?_
  refine g_arg H (i := i) (n := 2) (v := 2) 4 0 (by decide) (by rw [L2, nI_add]) (by omega) rfl rfl (dk kA15 31 rfl) (dk kA15 32 rfl) (dk kA15 33 rfl) (dk kA15 34 rfl) (dk kA15 35 rfl) ?_
  refine g_aload_n C (i := 3) 1 rfl rfl (dk kA15 36 rfl) ?_
  rcases l_customer hν (sx (i + 1)) (sx (i + 2)) with ⟨ν1, v, ν2, e1, e2, e3, e4, e5⟩ | ⟨ck, ν1, w, ν2, hm, e1, e2, e3, e5⟩
  · exact g_callSW C E (As := [.ref (za Z 0), .int (sx (i + 1)), .int (sx (i + 2)), .ref (za Z 145)]) (rest := []) 4 (ct_L_customer (r := 0) (μ' := ν1) k0 k12 (by rw [hK]; exact e1)) (tb4 (List.mem_of_getElem? (i := 156) rfl) rfl) ⟨(tb4 (List.mem_of_getElem? (i := 157) rfl) rfl), (tb1 (List.mem_of_getElem? (i := 0) rfl) rfl), (tb4 (List.mem_of_getElem? (i := 158) rfl) rfl)⟩ ⟨by decide, by decide, by decide⟩ rfl (by decide) rfl (Nat.le_of_ble_eq_true rfl) ⟨by show cells + 0 ≤ _; omega, by show slots + 0 ≤ _; omega⟩ (dk kA15 37 rfl) (fin 0 ν1 v ν2 (cells + 0) (slots + 0) (by omega) e2 e3 (fun _ => e4) e5 (by omega) (by omega))
  · rcases List.mem_cons.mp hm with rfl | hm
    · exact g_callSW C E (As := [.ref (za Z 0), .int (sx (i + 1)), .int (sx (i + 2)), .ref (za Z 145)]) (rest := []) 4 (ctx1_L_customer (μ9 := ν1) k0 k12 H.2.2.2.1 (by rw [hK]; exact e1)) (tb4 (List.mem_of_getElem? (i := 156) rfl) rfl) ⟨(tb4 (List.mem_of_getElem? (i := 157) rfl) rfl), (tb1 (List.mem_of_getElem? (i := 0) rfl) rfl), (tb4 (List.mem_of_getElem? (i := 158) rfl) rfl)⟩ ⟨by decide, by decide, by decide⟩ rfl (by decide) rfl (Nat.le_of_ble_eq_true rfl) ⟨hcs.1, hcs.2⟩ (dk kA15 37 rfl) (fin 1 ν1 w ν2 (cells + 1) (slots + 6) (by omega) e2 e3 (fun z => absurd z (by decide)) e5 (by omega) (by omega))
    · rcases List.mem_cons.mp hm with rfl | hm
      · exact g_callSW C E (As := [.ref (za Z 0), .int (sx (i + 1)), .int (sx (i + 2)), .ref (za Z 145)]) (rest := []) 4 (ctx2_L_customer (μ9 := ν1) k0 k12 H.2.2.2.1 (by rw [hK]; exact e1)) (tb4 (List.mem_of_getElem? (i := 156) rfl) rfl) ⟨(tb4 (List.mem_of_getElem? (i := 157) rfl) rfl), (tb1 (List.mem_of_getElem? (i := 0) rfl) rfl), (tb4 (List.mem_of_getElem? (i := 158) rfl) rfl)⟩ ⟨by decide, by decide, by decide⟩ rfl (by decide) rfl (Nat.le_of_ble_eq_true rfl) ⟨hcs.1, hcs.2⟩ (dk kA15 37 rfl) (fin 2 ν1 w ν2 (cells + 1) (slots + 6) (by omega) e2 e3 (fun z => absurd z (by decide)) e5 (by omega) (by omega))
      · exact absurd hm List.not_mem_nil
set_option maxRecDepth 100000 in
set_option maxHeartbeats 4000000 in
theorem w_whole (H : LX l Z X b L sx) {i : Nat} {ν : Mm} (hν : IV ν ν) (hi : i + 3 < L) (hcs : cells + 1 ≤ 601024 ∧ slots + 6 ≤ 7293034) (k : ∀ ν2, IV ν2 ν2 → G Z X 7 (cells + 1) (slots + 6) 23 (lvL Z b (i + 4)) [] ν2) : G Z X 7 cells slots 1144 (lvL Z b i) [] ν := by
  have C := H.1
  have E := H.2.1
  have hK := H.2.2.1
  obtain ⟨k0, k6, k12, kl⟩ := Hk H
  have fin : ∀ (q : Nat) ν1 v ν2 c1 s1, q < 4 → f_X8_whole KF ν1 139 (sx (i + 1)) = some (v, ν2) → ν2.1 139 7 = nI q → (q = 0 → ν2.2.2 145 0 = Int32.toInt64 v) → IV ν2 ν2 → c1 ≤ cells + 1 → s1 ≤ slots + 6 → G Z X 7 c1 s1 1155 [(4, .int (nI i)), (3, .ref (za Z 145)), (2, .ref (za Z 139)), (1, .ref (za Z 0)), (0, .ref b)] [.int (nI q)] ν1 := by
    intro q ν1 v ν2 c1 s1 q4 e2 e3 e4 e5 hc hs
    refine g_istore C (i := 5) (lv' := (5, .int (nI q)) :: [(4, .int (nI i)), (3, .ref (za Z 145)), (2, .ref (za Z 139)), (1, .ref (za Z 0)), (0, .ref b)]) (dk kA16 38 rfl) (by decide) rfl ?_
    refine g_aload_n C (i := 2) 3 rfl rfl (dk kA16 39 rfl) ?_
    refine g_arg H (i := i) (n := 1) (v := 1) 5 1 (by decide) (by rw [L1, nI_add]) (by omega) rfl rfl (dk kA17 0 rfl) (dk kA17 1 rfl) (dk kA17 2 rfl) (dk kA17 3 rfl) (dk kA17 4 rfl) ?_
    refine g_callV C E (As := [.int (sx (i + 1))]) (rest := []) 1 (ct_X8_whole (r := v) (μ' := ν2) k6 (by rw [hK]; exact e2)) (tb5 (List.mem_of_getElem? (i := 221) rfl) rfl) ⟨(tb5 (List.mem_of_getElem? (i := 222) rfl) rfl), (tb5 (List.mem_of_getElem? (i := 223) rfl) rfl), (tb1 (List.mem_of_getElem? (i := 10) rfl) rfl), (tb5 (List.mem_of_getElem? (i := 224) rfl) rfl)⟩ ⟨rfl, by decide, by decide, by decide⟩ rfl (by decide) k6 (by decide) rfl rfl (Nat.le_of_ble_eq_true rfl) ⟨by show c1 + 0 ≤ _; omega, by show s1 + 0 ≤ _; omega⟩ (dk kA17 5 rfl) ?_
    refine g_istore C (i := 6) (lv' := (6, .int v) :: (5, .int (nI q)) :: [(4, .int (nI i)), (3, .ref (za Z 145)), (2, .ref (za Z 139)), (1, .ref (za Z 0)), (0, .ref b)]) (dk kA17 6 rfl) (by decide) rfl ?_
    refine g_aload_n C (i := 2) 4 rfl rfl (dk kA17 7 rfl) ?_
    refine g_callV C E (As := []) (rest := []) 0 (ct_X8_thrown (r := nI q) (μ := ν2) k6 (by rw [← e3]; rfl)) (tb5 (List.mem_of_getElem? (i := 37) rfl) rfl) ⟨(tb5 (List.mem_of_getElem? (i := 38) rfl) rfl), (tb5 (List.mem_of_getElem? (i := 39) rfl) rfl), (tb1 (List.mem_of_getElem? (i := 10) rfl) rfl), (tb5 (List.mem_of_getElem? (i := 40) rfl) rfl)⟩ ⟨rfl, by decide, by decide, by decide⟩ rfl (by decide) k6 (by decide) rfl rfl (Nat.le_of_ble_eq_true rfl) ⟨by show c1 + 0 + 0 ≤ _; omega, by show s1 + 0 + 0 ≤ _; omega⟩ (dk kA17 8 rfl) ?_
    refine g_iload C (i := 5) 1 rfl (dk kA17 9 rfl) ?_
    refine g_icmp_eq C (tgt := 1180) (dk kA17 10 rfl) (by decide) (fun _ => ?_) (fun z => absurd rfl z)
    refine g_iload C (i := 5) 1 rfl (dk kA17 13 rfl) ?_
    have last : G Z X 7 (c1 + 0 + 0) (s1 + 0 + 0) 1197 ((6, .int v) :: (5, .int (nI q)) :: [(4, .int (nI i)), (3, .ref (za Z 145)), (2, .ref (za Z 139)), (1, .ref (za Z 0)), (0, .ref b)]) [] ν2 := by
      refine g_goto C (tgt := 1741) (dk kA17 24 rfl) (by decide) ?_
      refine g_sub [2, 3, 4, 5, 6] (lv' := lvL Z b i) rfl ?_
      exact w_tail H (g_widen (c1 := cells + 1) (s1 := slots + 6) (by omega) (by omega) (k ν2 e5))
    refine g_if_ne C (tgt := 1197) (dk kA17 14 rfl) (by decide) (fun _ => last) (fun z => ?_)
    have q0 : q = 0 := by
      have z : nI q = nI 0 := z
      rwa [eqN (by omega) (by omega)] at z
    refine g_aload_n C (i := 3) 3 rfl rfl (dk kA17 15 rfl) ?_
    refine g_iconst C (v := 0) (by decide) (dk kA17 16 rfl) ?_
    refine g_lald C k12 (by rw [kl]; decide) (dk kA17 17 rfl) ?_
    refine g_iload C (i := 6) 0 rfl (dk kA17 18 rfl) ?_
    refine g_i2l C (dk kA17 19 rfl) ?_
    refine g_lcmp C (dk kA17 20 rfl) ?_
    refine g_if_eq C (tgt := 1197) (dk kA17 21 rfl) (by decide) (fun _ => last) (fun z => absurd (lcmp_0 (e4 q0)) z)
  have k12' : (zk Z 145).1 = 12 := k12
  refine g_aload_n C (i := 1) 3 rfl rfl (dk kA16 30 rfl) ?_
  refine g_arg H (i := i) (n := 1) (v := 1) 4 0 (by decide) (by rw [L1, nI_add]) (by omega) rfl rfl (dk kA16 31 rfl) (dk kA16 32 rfl) (dk kA16 33 rfl) (dk kA16 34 rfl) (dk kA16 35 rfl) ?_
  refine g_aload_n C (i := 3) 1 rfl rfl (dk kA16 36 rfl) ?_
  rcases l_whole hν (sx (i + 1)) with ⟨ν1, v, ν2, e1, e2, e3, e4, e5⟩ | ⟨ck, ν1, w, ν2, hm, e1, e2, e3, e5⟩
  · exact g_callSW C E (As := [.ref (za Z 0), .int (sx (i + 1)), .ref (za Z 145)]) (rest := []) 3 (ct_L_whole (r := 0) (μ' := ν1) k0 k12 (by rw [hK]; exact e1)) (tb4 (List.mem_of_getElem? (i := 167) rfl) rfl) ⟨(tb4 (List.mem_of_getElem? (i := 168) rfl) rfl), (tb1 (List.mem_of_getElem? (i := 0) rfl) rfl), (tb4 (List.mem_of_getElem? (i := 169) rfl) rfl)⟩ ⟨by decide, by decide, by decide⟩ rfl (by decide) rfl (Nat.le_of_ble_eq_true rfl) ⟨by show cells + 0 ≤ _; omega, by show slots + 0 ≤ _; omega⟩ (dk kA16 37 rfl) (fin 0 ν1 v ν2 (cells + 0) (slots + 0) (by omega) e2 e3 (fun _ => e4) e5 (by omega) (by omega))
  · rcases List.mem_cons.mp hm with rfl | hm
    · exact g_callSW C E (As := [.ref (za Z 0), .int (sx (i + 1)), .ref (za Z 145)]) (rest := []) 3 (ctx2_L_whole (μ9 := ν1) k0 k12 H.2.2.2.1 (by rw [hK]; exact e1)) (tb4 (List.mem_of_getElem? (i := 167) rfl) rfl) ⟨(tb4 (List.mem_of_getElem? (i := 168) rfl) rfl), (tb1 (List.mem_of_getElem? (i := 0) rfl) rfl), (tb4 (List.mem_of_getElem? (i := 169) rfl) rfl)⟩ ⟨by decide, by decide, by decide⟩ rfl (by decide) rfl (Nat.le_of_ble_eq_true rfl) ⟨hcs.1, hcs.2⟩ (dk kA16 37 rfl) (fin 1 ν1 w ν2 (cells + 1) (slots + 6) (by omega) e2 e3 (fun z => absurd z (by decide)) e5 (by omega) (by omega))
    · exact absurd hm List.not_mem_nil
set_option maxRecDepth 100000 in
set_option maxHeartbeats 4000000 in
theorem w_reason (H : LX l Z X b L sx) {i : Nat} {ν : Mm} (hν : IV ν ν) (hi : i + 3 < L) (hcs : cells + 1 ≤ 601024 ∧ slots + 6 ≤ 7293034) (k : ∀ ν2, IV ν2 ν2 → G Z X 7 (cells + 1) (slots + 6) 23 (lvL Z b (i + 4)) [] ν2) : G Z X 7 cells slots 1200 (lvL Z b i) [] ν := by
  have C := H.1
  have E := H.2.1
  have hK := H.2.2.1
  obtain ⟨k0, k6, k12, kl⟩ := Hk H
  have fin : ∀ (q : Nat) ν1 v ν2 c1 s1, q < 4 → f_X8_reason KF ν1 139 (sx (i + 1)) (sx (i + 2)) (sx (i + 3)) = some (v, ν2) → ν2.1 139 7 = nI q → (q = 0 → ν2.2.2 145 0 = Int32.toInt64 v) → IV ν2 ν2 → c1 ≤ cells + 1 → s1 ≤ slots + 6 → G Z X 7 c1 s1 1223 [(4, .int (nI i)), (3, .ref (za Z 145)), (2, .ref (za Z 139)), (1, .ref (za Z 0)), (0, .ref b)] [.int (nI q)] ν1 := by
    intro q ν1 v ν2 c1 s1 q4 e2 e3 e4 e5 hc hs
    refine g_istore C (i := 5) (lv' := (5, .int (nI q)) :: [(4, .int (nI i)), (3, .ref (za Z 145)), (2, .ref (za Z 139)), (1, .ref (za Z 0)), (0, .ref b)]) (dk kA18 3 rfl) (by decide) rfl ?_
    refine g_aload_n C (i := 2) 3 rfl rfl (dk kA18 4 rfl) ?_
    refine g_arg H (i := i) (n := 1) (v := 1) 5 1 (by decide) (by rw [L1, nI_add]) (by omega) rfl rfl (dk kA18 5 rfl) (dk kA18 6 rfl) (dk kA18 7 rfl) (dk kA18 8 rfl) (dk kA18 9 rfl) ?_
    refine g_arg H (i := i) (n := 2) (v := 2) 5 1 (by decide) (by rw [L2, nI_add]) (by omega) rfl rfl (dk kA18 10 rfl) (dk kA18 11 rfl) (dk kA18 12 rfl) (dk kA18 13 rfl) (dk kA18 14 rfl) ?_
    refine g_arg H (i := i) (n := 3) (v := 3) 5 1 (by decide) (by rw [L3, nI_add]) (by omega) rfl rfl (dk kA18 15 rfl) (dk kA18 16 rfl) (dk kA18 17 rfl) (dk kA18 18 rfl) (dk kA18 19 rfl) ?_
    refine g_callV C E (As := [.int (sx (i + 1)), .int (sx (i + 2)), .int (sx (i + 3))]) (rest := []) 3 (ct_X8_reason (r := v) (μ' := ν2) k6 (by rw [hK]; exact e2)) (tb5 (List.mem_of_getElem? (i := 233) rfl) rfl) ⟨(tb5 (List.mem_of_getElem? (i := 234) rfl) rfl), (tb5 (List.mem_of_getElem? (i := 235) rfl) rfl), (tb1 (List.mem_of_getElem? (i := 10) rfl) rfl), (tb5 (List.mem_of_getElem? (i := 236) rfl) rfl)⟩ ⟨rfl, by decide, by decide, by decide⟩ rfl (by decide) k6 (by decide) rfl rfl (Nat.le_of_ble_eq_true rfl) ⟨by show c1 + 0 ≤ _; omega, by show s1 + 0 ≤ _; omega⟩ (dk kA18 20 rfl) ?_
    refine g_istore C (i := 6) (lv' := (6, .int v) :: (5, .int (nI q)) :: [(4, .int (nI i)), (3, .ref (za Z 145)), (2, .ref (za Z 139)), (1, .ref (za Z 0)), (0, .ref b)]) (dk kA18 21 rfl) (by decide) rfl ?_
    refine g_aload_n C (i := 2) 4 rfl rfl (dk kA18 22 rfl) ?_
    refine g_callV C E (As := []) (rest := []) 0 (ct_X8_thrown (r := nI q) (μ := ν2) k6 (by rw [← e3]; rfl)) (tb5 (List.mem_of_getElem? (i := 37) rfl) rfl) ⟨(tb5 (List.mem_of_getElem? (i := 38) rfl) rfl), (tb5 (List.mem_of_getElem? (i := 39) rfl) rfl), (tb1 (List.mem_of_getElem? (i := 10) rfl) rfl), (tb5 (List.mem_of_getElem? (i := 40) rfl) rfl)⟩ ⟨rfl, by decide, by decide, by decide⟩ rfl (by decide) k6 (by decide) rfl rfl (Nat.le_of_ble_eq_true rfl) ⟨by show c1 + 0 + 0 ≤ _; omega, by show s1 + 0 + 0 ≤ _; omega⟩ (dk kA18 23 rfl) ?_
    refine g_iload C (i := 5) 1 rfl (dk kA18 24 rfl) ?_
    refine g_icmp_eq C (tgt := 1260) (dk kA18 25 rfl) (by decide) (fun _ => ?_) (fun z => absurd rfl z)
    refine g_iload C (i := 5) 1 rfl (dk kA18 28 rfl) ?_
    have last : G Z X 7 (c1 + 0 + 0) (s1 + 0 + 0) 1277 ((6, .int v) :: (5, .int (nI q)) :: [(4, .int (nI i)), (3, .ref (za Z 145)), (2, .ref (za Z 139)), (1, .ref (za Z 0)), (0, .ref b)]) [] ν2 := by
      refine g_goto C (tgt := 1741) (dk kA18 39 rfl) (by decide) ?_
      refine g_sub [2, 3, 4, 5, 6] (lv' := lvL Z b i) rfl ?_
      exact w_tail H (g_widen (c1 := cells + 1) (s1 := slots + 6) (by omega) (by omega) (k ν2 e5))
    refine g_if_ne C (tgt := 1277) (dk kA18 29 rfl) (by decide) (fun _ => last) (fun z => ?_)
    have q0 : q = 0 := by
      have z : nI q = nI 0 := z
      rwa [eqN (by omega) (by omega)] at z
    refine g_aload_n C (i := 3) 3 rfl rfl (dk kA18 30 rfl) ?_
    refine g_iconst C (v := 0) (by decide) (dk kA18 31 rfl) ?_
    refine g_lald C k12 (by rw [kl]; decide) (dk kA18 32 rfl) ?_
    refine g_iload C (i := 6) 0 rfl (dk kA18 33 rfl) ?_
    refine g_i2l C (dk kA18 34 rfl) ?_
    refine g_lcmp C (dk kA18 35 rfl) ?_
    refine g_if_eq C (tgt := 1277) (dk kA18 36 rfl) (by decide) (fun _ => last) (fun z => absurd (lcmp_0 (e4 q0)) z)
  have k12' : (zk Z 145).1 = 12 := k12
  refine g_aload_n C (i := 1) 3 rfl rfl (dk kA17 25 rfl) ?_
  refine g_arg H (i := i) (n := 1) (v := 1) 4 0 (by decide) (by rw [L1, nI_add]) (by omega) rfl rfl (dk kA17 26 rfl) (dk kA17 27 rfl) (dk kA17 28 rfl) (dk kA17 29 rfl) (dk kA17 30 rfl) ?_
  refine g_arg H (i := i) (n := 2) (v := 2) 4 0 (by decide) (by rw [L2, nI_add]) (by omega) rfl rfl (dk kA17 31 rfl) (dk kA17 32 rfl) (dk kA17 33 rfl) (dk kA17 34 rfl) (dk kA17 35 rfl) ?_
  refine g_arg H (i := i) (n := 3) (v := 3) 4 0 (by decide) (by rw [L3, nI_add]) (by omega) rfl rfl (dk kA17 36 rfl) (dk kA17 37 rfl) (dk kA17 38 rfl) (dk kA17 39 rfl) (dk kA18 0 rfl) ?_
  refine g_aload_n C (i := 3) 1 rfl rfl (dk kA18 1 rfl) ?_
  rcases l_reason hν (sx (i + 1)) (sx (i + 2)) (sx (i + 3)) with ⟨ν1, v, ν2, e1, e2, e3, e4, e5⟩ | ⟨ck, ν1, w, ν2, hm, e1, e2, e3, e5⟩
  · exact g_callSW C E (As := [.ref (za Z 0), .int (sx (i + 1)), .int (sx (i + 2)), .int (sx (i + 3)), .ref (za Z 145)]) (rest := []) 5 (ct_L_reason (r := 0) (μ' := ν1) k0 k12 (by rw [hK]; exact e1)) (tb4 (List.mem_of_getElem? (i := 171) rfl) rfl) ⟨(tb4 (List.mem_of_getElem? (i := 172) rfl) rfl), (tb1 (List.mem_of_getElem? (i := 0) rfl) rfl), (tb4 (List.mem_of_getElem? (i := 173) rfl) rfl)⟩ ⟨by decide, by decide, by decide⟩ rfl (by decide) rfl (Nat.le_of_ble_eq_true rfl) ⟨by show cells + 0 ≤ _; omega, by show slots + 0 ≤ _; omega⟩ (dk kA18 2 rfl) (fin 0 ν1 v ν2 (cells + 0) (slots + 0) (by omega) e2 e3 (fun _ => e4) e5 (by omega) (by omega))
  · rcases List.mem_cons.mp hm with rfl | hm
    · exact g_callSW C E (As := [.ref (za Z 0), .int (sx (i + 1)), .int (sx (i + 2)), .int (sx (i + 3)), .ref (za Z 145)]) (rest := []) 5 (ctx1_L_reason (μ9 := ν1) k0 k12 H.2.2.2.1 (by rw [hK]; exact e1)) (tb4 (List.mem_of_getElem? (i := 171) rfl) rfl) ⟨(tb4 (List.mem_of_getElem? (i := 172) rfl) rfl), (tb1 (List.mem_of_getElem? (i := 0) rfl) rfl), (tb4 (List.mem_of_getElem? (i := 173) rfl) rfl)⟩ ⟨by decide, by decide, by decide⟩ rfl (by decide) rfl (Nat.le_of_ble_eq_true rfl) ⟨hcs.1, hcs.2⟩ (dk kA18 2 rfl) (fin 1 ν1 w ν2 (cells + 1) (slots + 6) (by omega) e2 e3 (fun z => absurd z (by decide)) e5 (by omega) (by omega))
    · rcases List.mem_cons.mp hm with rfl | hm
      · exact g_callSW C E (As := [.ref (za Z 0), .int (sx (i + 1)), .int (sx (i + 2)), .int (sx (i + 3)), .ref (za Z 145)]) (rest := []) 5 (ctx2_L_reason (μ9 := ν1) k0 k12 H.2.2.2.1 (by rw [hK]; exact e1)) (tb4 (List.mem_of_getElem? (i := 171) rfl) rfl) ⟨(tb4 (List.mem_of_getElem? (i := 172) rfl) rfl), (tb1 (List.mem_of_getElem? (i := 0) rfl) rfl), (tb4 (List.mem_of_getElem? (i := 173) rfl) rfl)⟩ ⟨by decide, by decide, by decide⟩ rfl (by decide) rfl (Nat.le_of_ble_eq_true rfl) ⟨hcs.1, hcs.2⟩ (dk kA18 2 rfl) (fin 2 ν1 w ν2 (cells + 1) (slots + 6) (by omega) e2 e3 (fun z => absurd z (by decide)) e5 (by omega) (by omega))
      · exact absurd hm List.not_mem_nil
set_option maxRecDepth 100000 in
set_option maxHeartbeats 4000000 in
theorem w_price (H : LX l Z X b L sx) {i : Nat} {ν : Mm} (hν : IV ν ν) (hi : i + 3 < L) (hcs : cells + 1 ≤ 601024 ∧ slots + 6 ≤ 7293034) (k : ∀ ν2, IV ν2 ν2 → G Z X 7 (cells + 1) (slots + 6) 23 (lvL Z b (i + 4)) [] ν2) : G Z X 7 cells slots 1280 (lvL Z b i) [] ν := by
  have C := H.1
  have E := H.2.1
  have hK := H.2.2.1
  obtain ⟨k0, k6, k12, kl⟩ := Hk H
  have fin : ∀ (q : Nat) ν1 v ν2 c1 s1, q < 4 → f_X8_price KF ν1 139 (sx (i + 1)) (sx (i + 2)) (sx (i + 3)) = some (v, ν2) → ν2.1 139 7 = nI q → (q = 0 → ν2.2.2 145 0 = Int32.toInt64 v) → IV ν2 ν2 → c1 ≤ cells + 1 → s1 ≤ slots + 6 → G Z X 7 c1 s1 1303 [(4, .int (nI i)), (3, .ref (za Z 145)), (2, .ref (za Z 139)), (1, .ref (za Z 0)), (0, .ref b)] [.int (nI q)] ν1 := by
    intro q ν1 v ν2 c1 s1 q4 e2 e3 e4 e5 hc hs
    refine g_istore C (i := 5) (lv' := (5, .int (nI q)) :: [(4, .int (nI i)), (3, .ref (za Z 145)), (2, .ref (za Z 139)), (1, .ref (za Z 0)), (0, .ref b)]) (dk kA19 18 rfl) (by decide) rfl ?_
    refine g_aload_n C (i := 2) 3 rfl rfl (dk kA19 19 rfl) ?_
    refine g_arg H (i := i) (n := 1) (v := 1) 5 1 (by decide) (by rw [L1, nI_add]) (by omega) rfl rfl (dk kA19 20 rfl) (dk kA19 21 rfl) (dk kA19 22 rfl) (dk kA19 23 rfl) (dk kA19 24 rfl) ?_
    refine g_arg H (i := i) (n := 2) (v := 2) 5 1 (by decide) (by rw [L2, nI_add]) (by omega) rfl rfl (dk kA19 25 rfl) (dk kA19 26 rfl) (dk kA19 27 rfl) (dk kA19 28 rfl) (dk kA19 29 rfl) ?_
    refine g_arg H (i := i) (n := 3) (v := 3) 5 1 (by decide) (by rw [L3, nI_add]) (by omega) rfl rfl (dk kA19 30 rfl) (dk kA19 31 rfl) (dk kA19 32 rfl) (dk kA19 33 rfl) (dk kA19 34 rfl) ?_
    refine g_callV C E (As := [.int (sx (i + 1)), .int (sx (i + 2)), .int (sx (i + 3))]) (rest := []) 3 (ct_X8_price (r := v) (μ' := ν2) k6 (by rw [hK]; exact e2)) (tb5 (List.mem_of_getElem? (i := 237) rfl) rfl) ⟨(tb5 (List.mem_of_getElem? (i := 238) rfl) rfl), (tb5 (List.mem_of_getElem? (i := 239) rfl) rfl), (tb1 (List.mem_of_getElem? (i := 10) rfl) rfl), (tb6 (List.mem_of_getElem? (i := 0) rfl) rfl)⟩ ⟨rfl, by decide, by decide, by decide⟩ rfl (by decide) k6 (by decide) rfl rfl (Nat.le_of_ble_eq_true rfl) ⟨by show c1 + 0 ≤ _; omega, by show s1 + 0 ≤ _; omega⟩ (dk kA19 35 rfl) ?_
    refine g_istore C (i := 6) (lv' := (6, .int v) :: (5, .int (nI q)) :: [(4, .int (nI i)), (3, .ref (za Z 145)), (2, .ref (za Z 139)), (1, .ref (za Z 0)), (0, .ref b)]) (dk kA19 36 rfl) (by decide) rfl ?_
    refine g_aload_n C (i := 2) 4 rfl rfl (dk kA19 37 rfl) ?_
    refine g_callV C E (As := []) (rest := []) 0 (ct_X8_thrown (r := nI q) (μ := ν2) k6 (by rw [← e3]; rfl)) (tb5 (List.mem_of_getElem? (i := 37) rfl) rfl) ⟨(tb5 (List.mem_of_getElem? (i := 38) rfl) rfl), (tb5 (List.mem_of_getElem? (i := 39) rfl) rfl), (tb1 (List.mem_of_getElem? (i := 10) rfl) rfl), (tb5 (List.mem_of_getElem? (i := 40) rfl) rfl)⟩ ⟨rfl, by decide, by decide, by decide⟩ rfl (by decide) k6 (by decide) rfl rfl (Nat.le_of_ble_eq_true rfl) ⟨by show c1 + 0 + 0 ≤ _; omega, by show s1 + 0 + 0 ≤ _; omega⟩ (dk kA19 38 rfl) ?_
    refine g_iload C (i := 5) 1 rfl (dk kA19 39 rfl) ?_
    refine g_icmp_eq C (tgt := 1340) (dk kA20 0 rfl) (by decide) (fun _ => ?_) (fun z => absurd rfl z)
    refine g_iload C (i := 5) 1 rfl (dk kA20 3 rfl) ?_
    have last : G Z X 7 (c1 + 0 + 0) (s1 + 0 + 0) 1357 ((6, .int v) :: (5, .int (nI q)) :: [(4, .int (nI i)), (3, .ref (za Z 145)), (2, .ref (za Z 139)), (1, .ref (za Z 0)), (0, .ref b)]) [] ν2 := by
      refine g_goto C (tgt := 1741) (dk kA20 14 rfl) (by decide) ?_
      refine g_sub [2, 3, 4, 5, 6] (lv' := lvL Z b i) rfl ?_
      exact w_tail H (g_widen (c1 := cells + 1) (s1 := slots + 6) (by omega) (by omega) (k ν2 e5))
    refine g_if_ne C (tgt := 1357) (dk kA20 4 rfl) (by decide) (fun _ => last) (fun z => ?_)
    have q0 : q = 0 := by
      have z : nI q = nI 0 := z
      rwa [eqN (by omega) (by omega)] at z
    refine g_aload_n C (i := 3) 3 rfl rfl (dk kA20 5 rfl) ?_
    refine g_iconst C (v := 0) (by decide) (dk kA20 6 rfl) ?_
    refine g_lald C k12 (by rw [kl]; decide) (dk kA20 7 rfl) ?_
    refine g_iload C (i := 6) 0 rfl (dk kA20 8 rfl) ?_
    refine g_i2l C (dk kA20 9 rfl) ?_
    refine g_lcmp C (dk kA20 10 rfl) ?_
    refine g_if_eq C (tgt := 1357) (dk kA20 11 rfl) (by decide) (fun _ => last) (fun z => absurd (lcmp_0 (e4 q0)) z)
  have k12' : (zk Z 145).1 = 12 := k12
  refine g_aload_n C (i := 1) 3 rfl rfl (dk kA19 0 rfl) ?_
  refine g_arg H (i := i) (n := 1) (v := 1) 4 0 (by decide) (by rw [L1, nI_add]) (by omega) rfl rfl (dk kA19 1 rfl) (dk kA19 2 rfl) (dk kA19 3 rfl) (dk kA19 4 rfl) (dk kA19 5 rfl) ?_
  refine g_arg H (i := i) (n := 2) (v := 2) 4 0 (by decide) (by rw [L2, nI_add]) (by omega) rfl rfl (dk kA19 6 rfl) (dk kA19 7 rfl) (dk kA19 8 rfl) (dk kA19 9 rfl) (dk kA19 10 rfl) ?_
  refine g_arg H (i := i) (n := 3) (v := 3) 4 0 (by decide) (by rw [L3, nI_add]) (by omega) rfl rfl (dk kA19 11 rfl) (dk kA19 12 rfl) (dk kA19 13 rfl) (dk kA19 14 rfl) (dk kA19 15 rfl) ?_
  refine g_aload_n C (i := 3) 1 rfl rfl (dk kA19 16 rfl) ?_
  rcases l_price hν (sx (i + 1)) (sx (i + 2)) (sx (i + 3)) with ⟨ν1, v, ν2, e1, e2, e3, e4, e5⟩ | ⟨ck, ν1, w, ν2, hm, e1, e2, e3, e5⟩
  · exact g_callSW C E (As := [.ref (za Z 0), .int (sx (i + 1)), .int (sx (i + 2)), .int (sx (i + 3)), .ref (za Z 145)]) (rest := []) 5 (ct_L_price (r := 0) (μ' := ν1) k0 k12 (by rw [hK]; exact e1)) (tb4 (List.mem_of_getElem? (i := 180) rfl) rfl) ⟨(tb4 (List.mem_of_getElem? (i := 181) rfl) rfl), (tb1 (List.mem_of_getElem? (i := 0) rfl) rfl), (tb4 (List.mem_of_getElem? (i := 182) rfl) rfl)⟩ ⟨by decide, by decide, by decide⟩ rfl (by decide) rfl (Nat.le_of_ble_eq_true rfl) ⟨by show cells + 0 ≤ _; omega, by show slots + 0 ≤ _; omega⟩ (dk kA19 17 rfl) (fin 0 ν1 v ν2 (cells + 0) (slots + 0) (by omega) e2 e3 (fun _ => e4) e5 (by omega) (by omega))
  · rcases List.mem_cons.mp hm with rfl | hm
    · exact g_callSW C E (As := [.ref (za Z 0), .int (sx (i + 1)), .int (sx (i + 2)), .int (sx (i + 3)), .ref (za Z 145)]) (rest := []) 5 (ctx1_L_price (μ9 := ν1) k0 k12 H.2.2.2.1 (by rw [hK]; exact e1)) (tb4 (List.mem_of_getElem? (i := 180) rfl) rfl) ⟨(tb4 (List.mem_of_getElem? (i := 181) rfl) rfl), (tb1 (List.mem_of_getElem? (i := 0) rfl) rfl), (tb4 (List.mem_of_getElem? (i := 182) rfl) rfl)⟩ ⟨by decide, by decide, by decide⟩ rfl (by decide) rfl (Nat.le_of_ble_eq_true rfl) ⟨hcs.1, hcs.2⟩ (dk kA19 17 rfl) (fin 1 ν1 w ν2 (cells + 1) (slots + 6) (by omega) e2 e3 (fun z => absurd z (by decide)) e5 (by omega) (by omega))
    · rcases List.mem_cons.mp hm with rfl | hm
      · exact g_callSW C E (As := [.ref (za Z 0), .int (sx (i + 1)), .int (sx (i + 2)), .int (sx (i + 3)), .ref (za Z 145)]) (rest := []) 5 (ctx2_L_price (μ9 := ν1) k0 k12 H.2.2.2.1 (by rw [hK]; exact e1)) (tb4 (List.mem_of_getElem? (i := 180) rfl) rfl) ⟨(tb4 (List.mem_of_getElem? (i := 181) rfl) rfl), (tb1 (List.mem_of_getElem? (i := 0) rfl) rfl), (tb4 (List.mem_of_getElem? (i := 182) rfl) rfl)⟩ ⟨by decide, by decide, by decide⟩ rfl (by decide) rfl (Nat.le_of_ble_eq_true rfl) ⟨hcs.1, hcs.2⟩ (dk kA19 17 rfl) (fin 2 ν1 w ν2 (cells + 1) (slots + 6) (by omega) e2 e3 (fun z => absurd z (by decide)) e5 (by omega) (by omega))
      · exact absurd hm List.not_mem_nil
set_option maxRecDepth 100000 in
set_option maxHeartbeats 4000000 in
theorem w_unreadable (H : LX l Z X b L sx) {i : Nat} {ν : Mm} (hν : IV ν ν) (hi : i + 3 < L) (hcs : cells + 1 ≤ 601024 ∧ slots + 6 ≤ 7293034) (k : ∀ ν2, IV ν2 ν2 → G Z X 7 (cells + 1) (slots + 6) 23 (lvL Z b (i + 4)) [] ν2) : G Z X 7 cells slots 1360 (lvL Z b i) [] ν := by
  have C := H.1
  have E := H.2.1
  have hK := H.2.2.1
  obtain ⟨k0, k6, k12, kl⟩ := Hk H
  have fin : ∀ (q : Nat) ν1 v ν2 c1 s1, q < 4 → f_X8_unreadable KF ν1 139 (sx (i + 1)) (sx (i + 2)) (sx (i + 3)) = some (v, ν2) → ν2.1 139 7 = nI q → (q = 0 → ν2.2.2 145 0 = Int32.toInt64 v) → IV ν2 ν2 → c1 ≤ cells + 1 → s1 ≤ slots + 6 → G Z X 7 c1 s1 1383 [(4, .int (nI i)), (3, .ref (za Z 145)), (2, .ref (za Z 139)), (1, .ref (za Z 0)), (0, .ref b)] [.int (nI q)] ν1 := by
    intro q ν1 v ν2 c1 s1 q4 e2 e3 e4 e5 hc hs
    refine g_istore C (i := 5) (lv' := (5, .int (nI q)) :: [(4, .int (nI i)), (3, .ref (za Z 145)), (2, .ref (za Z 139)), (1, .ref (za Z 0)), (0, .ref b)]) (dk kA20 33 rfl) (by decide) rfl ?_
    refine g_aload_n C (i := 2) 3 rfl rfl (dk kA20 34 rfl) ?_
    refine g_arg H (i := i) (n := 1) (v := 1) 5 1 (by decide) (by rw [L1, nI_add]) (by omega) rfl rfl (dk kA20 35 rfl) (dk kA20 36 rfl) (dk kA20 37 rfl) (dk kA20 38 rfl) (dk kA20 39 rfl) ?_
    refine g_arg H (i := i) (n := 2) (v := 2) 5 1 (by decide) (by rw [L2, nI_add]) (by omega) rfl rfl (dk kA21 0 rfl) (dk kA21 1 rfl) (dk kA21 2 rfl) (dk kA21 3 rfl) (dk kA21 4 rfl) ?_
    refine g_arg H (i := i) (n := 3) (v := 3) 5 1 (by decide) (by rw [L3, nI_add]) (by omega) rfl rfl (dk kA21 5 rfl) (dk kA21 6 rfl) (dk kA21 7 rfl) (dk kA21 8 rfl) (dk kA21 9 rfl) ?_
    refine g_callV C E (As := [.int (sx (i + 1)), .int (sx (i + 2)), .int (sx (i + 3))]) (rest := []) 3 (ct_X8_unreadable (r := v) (μ' := ν2) k6 (by rw [hK]; exact e2)) (tb6 (List.mem_of_getElem? (i := 1) rfl) rfl) ⟨(tb6 (List.mem_of_getElem? (i := 2) rfl) rfl), (tb6 (List.mem_of_getElem? (i := 3) rfl) rfl), (tb1 (List.mem_of_getElem? (i := 10) rfl) rfl), (tb6 (List.mem_of_getElem? (i := 4) rfl) rfl)⟩ ⟨rfl, by decide, by decide, by decide⟩ rfl (by decide) k6 (by decide) rfl rfl (Nat.le_of_ble_eq_true rfl) ⟨by show c1 + 0 ≤ _; omega, by show s1 + 0 ≤ _; omega⟩ (dk kA21 10 rfl) ?_
    refine g_istore C (i := 6) (lv' := (6, .int v) :: (5, .int (nI q)) :: [(4, .int (nI i)), (3, .ref (za Z 145)), (2, .ref (za Z 139)), (1, .ref (za Z 0)), (0, .ref b)]) (dk kA21 11 rfl) (by decide) rfl ?_
    refine g_aload_n C (i := 2) 4 rfl rfl (dk kA21 12 rfl) ?_
    refine g_callV C E (As := []) (rest := []) 0 (ct_X8_thrown (r := nI q) (μ := ν2) k6 (by rw [← e3]; rfl)) (tb5 (List.mem_of_getElem? (i := 37) rfl) rfl) ⟨(tb5 (List.mem_of_getElem? (i := 38) rfl) rfl), (tb5 (List.mem_of_getElem? (i := 39) rfl) rfl), (tb1 (List.mem_of_getElem? (i := 10) rfl) rfl), (tb5 (List.mem_of_getElem? (i := 40) rfl) rfl)⟩ ⟨rfl, by decide, by decide, by decide⟩ rfl (by decide) k6 (by decide) rfl rfl (Nat.le_of_ble_eq_true rfl) ⟨by show c1 + 0 + 0 ≤ _; omega, by show s1 + 0 + 0 ≤ _; omega⟩ (dk kA21 13 rfl) ?_
    refine g_iload C (i := 5) 1 rfl (dk kA21 14 rfl) ?_
    refine g_icmp_eq C (tgt := 1420) (dk kA21 15 rfl) (by decide) (fun _ => ?_) (fun z => absurd rfl z)
    refine g_iload C (i := 5) 1 rfl (dk kA21 18 rfl) ?_
    have last : G Z X 7 (c1 + 0 + 0) (s1 + 0 + 0) 1437 ((6, .int v) :: (5, .int (nI q)) :: [(4, .int (nI i)), (3, .ref (za Z 145)), (2, .ref (za Z 139)), (1, .ref (za Z 0)), (0, .ref b)]) [] ν2 := by
      refine g_goto C (tgt := 1741) (dk kA21 29 rfl) (by decide) ?_
      refine g_sub [2, 3, 4, 5, 6] (lv' := lvL Z b i) rfl ?_
      exact w_tail H (g_widen (c1 := cells + 1) (s1 := slots + 6) (by omega) (by omega) (k ν2 e5))
    refine g_if_ne C (tgt := 1437) (dk kA21 19 rfl) (by decide) (fun _ => last) (fun z => ?_)
    have q0 : q = 0 := by
      have z : nI q = nI 0 := z
      rwa [eqN (by omega) (by omega)] at z
    refine g_aload_n C (i := 3) 3 rfl rfl (dk kA21 20 rfl) ?_
    refine g_iconst C (v := 0) (by decide) (dk kA21 21 rfl) ?_
    refine g_lald C k12 (by rw [kl]; decide) (dk kA21 22 rfl) ?_
    refine g_iload C (i := 6) 0 rfl (dk kA21 23 rfl) ?_
    refine g_i2l C (dk kA21 24 rfl) ?_
    refine g_lcmp C (dk kA21 25 rfl) ?_
    refine g_if_eq C (tgt := 1437) (dk kA21 26 rfl) (by decide) (fun _ => last) (fun z => absurd (lcmp_0 (e4 q0)) z)
  have k12' : (zk Z 145).1 = 12 := k12
  refine g_aload_n C (i := 1) 3 rfl rfl (dk kA20 15 rfl) ?_
  refine g_arg H (i := i) (n := 1) (v := 1) 4 0 (by decide) (by rw [L1, nI_add]) (by omega) rfl rfl (dk kA20 16 rfl) (dk kA20 17 rfl) (dk kA20 18 rfl) (dk kA20 19 rfl) (dk kA20 20 rfl) ?_
  refine g_arg H (i := i) (n := 2) (v := 2) 4 0 (by decide) (by rw [L2, nI_add]) (by omega) rfl rfl (dk kA20 21 rfl) (dk kA20 22 rfl) (dk kA20 23 rfl) (dk kA20 24 rfl) (dk kA20 25 rfl) ?_
  refine g_arg H (i := i) (n := 3) (v := 3) 4 0 (by decide) (by rw [L3, nI_add]) (by omega) rfl rfl (dk kA20 26 rfl) (dk kA20 27 rfl) (dk kA20 28 rfl) (dk kA20 29 rfl) (dk kA20 30 rfl) ?_
  refine g_aload_n C (i := 3) 1 rfl rfl (dk kA20 31 rfl) ?_
  rcases l_unreadable hν (sx (i + 1)) (sx (i + 2)) (sx (i + 3)) with ⟨ν1, v, ν2, e1, e2, e3, e4, e5⟩ | ⟨ck, ν1, w, ν2, hm, e1, e2, e3, e5⟩
  · exact g_callSW C E (As := [.ref (za Z 0), .int (sx (i + 1)), .int (sx (i + 2)), .int (sx (i + 3)), .ref (za Z 145)]) (rest := []) 5 (ct_L_unreadable (r := 0) (μ' := ν1) k0 k12 (by rw [hK]; exact e1)) (tb4 (List.mem_of_getElem? (i := 188) rfl) rfl) ⟨(tb4 (List.mem_of_getElem? (i := 189) rfl) rfl), (tb1 (List.mem_of_getElem? (i := 0) rfl) rfl), (tb4 (List.mem_of_getElem? (i := 190) rfl) rfl)⟩ ⟨by decide, by decide, by decide⟩ rfl (by decide) rfl (Nat.le_of_ble_eq_true rfl) ⟨by show cells + 0 ≤ _; omega, by show slots + 0 ≤ _; omega⟩ (dk kA20 32 rfl) (fin 0 ν1 v ν2 (cells + 0) (slots + 0) (by omega) e2 e3 (fun _ => e4) e5 (by omega) (by omega))
  · rcases List.mem_cons.mp hm with rfl | hm
    · exact g_callSW C E (As := [.ref (za Z 0), .int (sx (i + 1)), .int (sx (i + 2)), .int (sx (i + 3)), .ref (za Z 145)]) (rest := []) 5 (ctx1_L_unreadable (μ9 := ν1) k0 k12 H.2.2.2.1 (by rw [hK]; exact e1)) (tb4 (List.mem_of_getElem? (i := 188) rfl) rfl) ⟨(tb4 (List.mem_of_getElem? (i := 189) rfl) rfl), (tb1 (List.mem_of_getElem? (i := 0) rfl) rfl), (tb4 (List.mem_of_getElem? (i := 190) rfl) rfl)⟩ ⟨by decide, by decide, by decide⟩ rfl (by decide) rfl (Nat.le_of_ble_eq_true rfl) ⟨hcs.1, hcs.2⟩ (dk kA20 32 rfl) (fin 1 ν1 w ν2 (cells + 1) (slots + 6) (by omega) e2 e3 (fun z => absurd z (by decide)) e5 (by omega) (by omega))
    · rcases List.mem_cons.mp hm with rfl | hm
      · exact g_callSW C E (As := [.ref (za Z 0), .int (sx (i + 1)), .int (sx (i + 2)), .int (sx (i + 3)), .ref (za Z 145)]) (rest := []) 5 (ctx2_L_unreadable (μ9 := ν1) k0 k12 H.2.2.2.1 (by rw [hK]; exact e1)) (tb4 (List.mem_of_getElem? (i := 188) rfl) rfl) ⟨(tb4 (List.mem_of_getElem? (i := 189) rfl) rfl), (tb1 (List.mem_of_getElem? (i := 0) rfl) rfl), (tb4 (List.mem_of_getElem? (i := 190) rfl) rfl)⟩ ⟨by decide, by decide, by decide⟩ rfl (by decide) rfl (Nat.le_of_ble_eq_true rfl) ⟨hcs.1, hcs.2⟩ (dk kA20 32 rfl) (fin 2 ν1 w ν2 (cells + 1) (slots + 6) (by omega) e2 e3 (fun z => absurd z (by decide)) e5 (by omega) (by omega))
      · exact absurd hm List.not_mem_nil
set_option maxRecDepth 100000 in
set_option maxHeartbeats 4000000 in
theorem w_bestOffset (H : LX l Z X b L sx) {i : Nat} {ν : Mm} (hν : IV ν ν) (hi : i + 3 < L) (hcs : cells + 1 ≤ 601024 ∧ slots + 6 ≤ 7293034) (k : ∀ ν2, IV ν2 ν2 → G Z X 7 (cells + 1) (slots + 6) 23 (lvL Z b (i + 4)) [] ν2) : G Z X 7 cells slots 1440 (lvL Z b i) [] ν := by
  have C := H.1
  have E := H.2.1
  have hK := H.2.2.1
  obtain ⟨k0, k6, k12, kl⟩ := Hk H
  have fin : ∀ (q : Nat) ν1 v ν2 c1 s1, q < 4 → f_X8_bestOffset KF ν1 139 (sx (i + 1)) (sx (i + 2)) = some (v, ν2) → ν2.1 139 7 = nI q → (q = 0 → ν2.2.2 145 0 = Int32.toInt64 v) → IV ν2 ν2 → c1 ≤ cells + 1 → s1 ≤ slots + 6 → G Z X 7 c1 s1 1457 [(4, .int (nI i)), (3, .ref (za Z 145)), (2, .ref (za Z 139)), (1, .ref (za Z 0)), (0, .ref b)] [.int (nI q)] ν1 := by
    intro q ν1 v ν2 c1 s1 q4 e2 e3 e4 e5 hc hs
    refine g_istore C (i := 5) (lv' := (5, .int (nI q)) :: [(4, .int (nI i)), (3, .ref (za Z 145)), (2, .ref (za Z 139)), (1, .ref (za Z 0)), (0, .ref b)]) (dk kA22 3 rfl) (by decide) rfl ?_
    refine g_aload_n C (i := 2) 3 rfl rfl (dk kA22 4 rfl) ?_
    refine g_arg H (i := i) (n := 1) (v := 1) 5 1 (by decide) (by rw [L1, nI_add]) (by omega) rfl rfl (dk kA22 5 rfl) (dk kA22 6 rfl) (dk kA22 7 rfl) (dk kA22 8 rfl) (dk kA22 9 rfl) ?_
    refine g_arg H (i := i) (n := 2) (v := 2) 5 1 (by decide) (by rw [L2, nI_add]) (by omega) rfl rfl (dk kA22 10 rfl) (dk kA22 11 rfl) (dk kA22 12 rfl) (dk kA22 13 rfl) (dk kA22 14 rfl) ?_
    refine g_callV C E (As := [.int (sx (i + 1)), .int (sx (i + 2))]) (rest := []) 2 (ct_X8_bestOffset (r := v) (μ' := ν2) k6 (by rw [hK]; exact e2)) (tb6 (List.mem_of_getElem? (i := 5) rfl) rfl) ⟨(tb6 (List.mem_of_getElem? (i := 6) rfl) rfl), (tb6 (List.mem_of_getElem? (i := 7) rfl) rfl), (tb1 (List.mem_of_getElem? (i := 10) rfl) rfl), (tb6 (List.mem_of_getElem? (i := 8) rfl) rfl)⟩ ⟨rfl, by decide, by decide, by decide⟩ rfl (by decide) k6 (by decide) rfl rfl (Nat.le_of_ble_eq_true rfl) ⟨by show c1 + 0 ≤ _; omega, by show s1 + 0 ≤ _; omega⟩ (dk kA22 15 rfl) ?_
    refine g_istore C (i := 6) (lv' := (6, .int v) :: (5, .int (nI q)) :: [(4, .int (nI i)), (3, .ref (za Z 145)), (2, .ref (za Z 139)), (1, .ref (za Z 0)), (0, .ref b)]) (dk kA22 16 rfl) (by decide) rfl ?_
    refine g_aload_n C (i := 2) 4 rfl rfl (dk kA22 17 rfl) ?_
    refine g_callV C E (As := []) (rest := []) 0 (ct_X8_thrown (r := nI q) (μ := ν2) k6 (by rw [← e3]; rfl)) (tb5 (List.mem_of_getElem? (i := 37) rfl) rfl) ⟨(tb5 (List.mem_of_getElem? (i := 38) rfl) rfl), (tb5 (List.mem_of_getElem? (i := 39) rfl) rfl), (tb1 (List.mem_of_getElem? (i := 10) rfl) rfl), (tb5 (List.mem_of_getElem? (i := 40) rfl) rfl)⟩ ⟨rfl, by decide, by decide, by decide⟩ rfl (by decide) k6 (by decide) rfl rfl (Nat.le_of_ble_eq_true rfl) ⟨by show c1 + 0 + 0 ≤ _; omega, by show s1 + 0 + 0 ≤ _; omega⟩ (dk kA22 18 rfl) ?_
    refine g_iload C (i := 5) 1 rfl (dk kA22 19 rfl) ?_
    refine g_icmp_eq C (tgt := 1488) (dk kA22 20 rfl) (by decide) (fun _ => ?_) (fun z => absurd rfl z)
    refine g_iload C (i := 5) 1 rfl (dk kA22 23 rfl) ?_
    have last : G Z X 7 (c1 + 0 + 0) (s1 + 0 + 0) 1505 ((6, .int v) :: (5, .int (nI q)) :: [(4, .int (nI i)), (3, .ref (za Z 145)), (2, .ref (za Z 139)), (1, .ref (za Z 0)), (0, .ref b)]) [] ν2 := by
      refine g_goto C (tgt := 1741) (dk kA22 34 rfl) (by decide) ?_
      refine g_sub [2, 3, 4, 5, 6] (lv' := lvL Z b i) rfl ?_
      exact w_tail H (g_widen (c1 := cells + 1) (s1 := slots + 6) (by omega) (by omega) (k ν2 e5))
    refine g_if_ne C (tgt := 1505) (dk kA22 24 rfl) (by decide) (fun _ => last) (fun z => ?_)
    have q0 : q = 0 := by
      have z : nI q = nI 0 := z
      rwa [eqN (by omega) (by omega)] at z
    refine g_aload_n C (i := 3) 3 rfl rfl (dk kA22 25 rfl) ?_
    refine g_iconst C (v := 0) (by decide) (dk kA22 26 rfl) ?_
    refine g_lald C k12 (by rw [kl]; decide) (dk kA22 27 rfl) ?_
    refine g_iload C (i := 6) 0 rfl (dk kA22 28 rfl) ?_
    refine g_i2l C (dk kA22 29 rfl) ?_
    refine g_lcmp C (dk kA22 30 rfl) ?_
    refine g_if_eq C (tgt := 1505) (dk kA22 31 rfl) (by decide) (fun _ => last) (fun z => absurd (lcmp_0 (e4 q0)) z)
  have k12' : (zk Z 145).1 = 12 := k12
  refine g_aload_n C (i := 1) 3 rfl rfl (dk kA21 30 rfl) ?_
  refine g_arg H (i := i) (n := 1) (v := 1) 4 0 (by decide) (by rw [L1, nI_add]) (by omega) rfl rfl (dk kA21 31 rfl) (dk kA21 32 rfl) (dk kA21 33 rfl) (dk kA21 34 rfl) (dk kA21 35 rfl) ?_
  refine g_arg H (i := i) (n := 2) (v := 2) 4 0 (by decide) (by rw [L2, nI_add]) (by omega) rfl rfl (dk kA21 36 rfl) (dk kA21 37 rfl) (dk kA21 38 rfl) (dk kA21 39 rfl) (dk kA22 0 rfl) ?_
  refine g_aload_n C (i := 3) 1 rfl rfl (dk kA22 1 rfl) ?_
  rcases l_bestOffset hν (sx (i + 1)) (sx (i + 2)) with ⟨ν1, v, ν2, e1, e2, e3, e4, e5⟩ | ⟨ck, ν1, w, ν2, hm, e1, e2, e3, e5⟩
  · exact g_callSW C E (As := [.ref (za Z 0), .int (sx (i + 1)), .int (sx (i + 2)), .ref (za Z 145)]) (rest := []) 4 (ct_L_bestOffset (r := 0) (μ' := ν1) k0 k12 (by rw [hK]; exact e1)) (tb4 (List.mem_of_getElem? (i := 196) rfl) rfl) ⟨(tb4 (List.mem_of_getElem? (i := 197) rfl) rfl), (tb1 (List.mem_of_getElem? (i := 0) rfl) rfl), (tb4 (List.mem_of_getElem? (i := 198) rfl) rfl)⟩ ⟨by decide, by decide, by decide⟩ rfl (by decide) rfl (Nat.le_of_ble_eq_true rfl) ⟨by show cells + 0 ≤ _; omega, by show slots + 0 ≤ _; omega⟩ (dk kA22 2 rfl) (fin 0 ν1 v ν2 (cells + 0) (slots + 0) (by omega) e2 e3 (fun _ => e4) e5 (by omega) (by omega))
  · rcases List.mem_cons.mp hm with rfl | hm
    · exact g_callSW C E (As := [.ref (za Z 0), .int (sx (i + 1)), .int (sx (i + 2)), .ref (za Z 145)]) (rest := []) 4 (ctx1_L_bestOffset (μ9 := ν1) k0 k12 H.2.2.2.1 (by rw [hK]; exact e1)) (tb4 (List.mem_of_getElem? (i := 196) rfl) rfl) ⟨(tb4 (List.mem_of_getElem? (i := 197) rfl) rfl), (tb1 (List.mem_of_getElem? (i := 0) rfl) rfl), (tb4 (List.mem_of_getElem? (i := 198) rfl) rfl)⟩ ⟨by decide, by decide, by decide⟩ rfl (by decide) rfl (Nat.le_of_ble_eq_true rfl) ⟨hcs.1, hcs.2⟩ (dk kA22 2 rfl) (fin 1 ν1 w ν2 (cells + 1) (slots + 6) (by omega) e2 e3 (fun z => absurd z (by decide)) e5 (by omega) (by omega))
    · exact absurd hm List.not_mem_nil
set_option maxRecDepth 100000 in
set_option maxHeartbeats 4000000 in
theorem w_readableFor (H : LX l Z X b L sx) {i : Nat} {ν : Mm} (hν : IV ν ν) (hi : i + 3 < L) (hcs : cells + 1 ≤ 601024 ∧ slots + 6 ≤ 7293034) (k : ∀ ν2, IV ν2 ν2 → G Z X 7 (cells + 1) (slots + 6) 23 (lvL Z b (i + 4)) [] ν2) : G Z X 7 cells slots 1508 (lvL Z b i) [] ν := by
  have C := H.1
  have E := H.2.1
  have hK := H.2.2.1
  obtain ⟨k0, k6, k12, kl⟩ := Hk H
  have fin : ∀ (q : Nat) ν1 v ν2 c1 s1, q < 4 → f_X8_readableFor KF ν1 139 (sx (i + 1)) (sx (i + 2)) (sx (i + 3)) = some (v, ν2) → ν2.1 139 7 = nI q → (q = 0 → ν2.2.2 145 0 = Int32.toInt64 v) → IV ν2 ν2 → c1 ≤ cells + 1 → s1 ≤ slots + 6 → G Z X 7 c1 s1 1531 [(4, .int (nI i)), (3, .ref (za Z 145)), (2, .ref (za Z 139)), (1, .ref (za Z 0)), (0, .ref b)] [.int (nI q)] ν1 := by
    intro q ν1 v ν2 c1 s1 q4 e2 e3 e4 e5 hc hs
    refine g_istore C (i := 5) (lv' := (5, .int (nI q)) :: [(4, .int (nI i)), (3, .ref (za Z 145)), (2, .ref (za Z 139)), (1, .ref (za Z 0)), (0, .ref b)]) (dk kA23 13 rfl) (by decide) rfl ?_
    refine g_aload_n C (i := 2) 3 rfl rfl (dk kA23 14 rfl) ?_
    refine g_arg H (i := i) (n := 1) (v := 1) 5 1 (by decide) (by rw [L1, nI_add]) (by omega) rfl rfl (dk kA23 15 rfl) (dk kA23 16 rfl) (dk kA23 17 rfl) (dk kA23 18 rfl) (dk kA23 19 rfl) ?_
    refine g_arg H (i := i) (n := 2) (v := 2) 5 1 (by decide) (by rw [L2, nI_add]) (by omega) rfl rfl (dk kA23 20 rfl) (dk kA23 21 rfl) (dk kA23 22 rfl) (dk kA23 23 rfl) (dk kA23 24 rfl) ?_
    refine g_arg H (i := i) (n := 3) (v := 3) 5 1 (by decide) (by rw [L3, nI_add]) (by omega) rfl rfl (dk kA23 25 rfl) (dk kA23 26 rfl) (dk kA23 27 rfl) (dk kA23 28 rfl) (dk kA23 29 rfl) ?_
    refine g_callV C E (As := [.int (sx (i + 1)), .int (sx (i + 2)), .int (sx (i + 3))]) (rest := []) 3 (ct_X8_readableFor (r := v) (μ' := ν2) k6 (by rw [hK]; exact e2)) (tb6 (List.mem_of_getElem? (i := 9) rfl) rfl) ⟨(tb6 (List.mem_of_getElem? (i := 10) rfl) rfl), (tb6 (List.mem_of_getElem? (i := 11) rfl) rfl), (tb1 (List.mem_of_getElem? (i := 10) rfl) rfl), (tb6 (List.mem_of_getElem? (i := 12) rfl) rfl)⟩ ⟨rfl, by decide, by decide, by decide⟩ rfl (by decide) k6 (by decide) rfl rfl (Nat.le_of_ble_eq_true rfl) ⟨by show c1 + 0 ≤ _; omega, by show s1 + 0 ≤ _; omega⟩ (dk kA23 30 rfl) ?_
    refine g_istore C (i := 6) (lv' := (6, .int v) :: (5, .int (nI q)) :: [(4, .int (nI i)), (3, .ref (za Z 145)), (2, .ref (za Z 139)), (1, .ref (za Z 0)), (0, .ref b)]) (dk kA23 31 rfl) (by decide) rfl ?_
    refine g_aload_n C (i := 2) 4 rfl rfl (dk kA23 32 rfl) ?_
    refine g_callV C E (As := []) (rest := []) 0 (ct_X8_thrown (r := nI q) (μ := ν2) k6 (by rw [← e3]; rfl)) (tb5 (List.mem_of_getElem? (i := 37) rfl) rfl) ⟨(tb5 (List.mem_of_getElem? (i := 38) rfl) rfl), (tb5 (List.mem_of_getElem? (i := 39) rfl) rfl), (tb1 (List.mem_of_getElem? (i := 10) rfl) rfl), (tb5 (List.mem_of_getElem? (i := 40) rfl) rfl)⟩ ⟨rfl, by decide, by decide, by decide⟩ rfl (by decide) k6 (by decide) rfl rfl (Nat.le_of_ble_eq_true rfl) ⟨by show c1 + 0 + 0 ≤ _; omega, by show s1 + 0 + 0 ≤ _; omega⟩ (dk kA23 33 rfl) ?_
    refine g_iload C (i := 5) 1 rfl (dk kA23 34 rfl) ?_
    refine g_icmp_eq C (tgt := 1568) (dk kA23 35 rfl) (by decide) (fun _ => ?_) (fun z => absurd rfl z)
    refine g_iload C (i := 5) 1 rfl (dk kA23 38 rfl) ?_
    have last : G Z X 7 (c1 + 0 + 0) (s1 + 0 + 0) 1585 ((6, .int v) :: (5, .int (nI q)) :: [(4, .int (nI i)), (3, .ref (za Z 145)), (2, .ref (za Z 139)), (1, .ref (za Z 0)), (0, .ref b)]) [] ν2 := by
      refine g_goto C (tgt := 1741) (dk kA24 9 rfl) (by decide) ?_
      refine g_sub [2, 3, 4, 5, 6] (lv' := lvL Z b i) rfl ?_
      exact w_tail H (g_widen (c1 := cells + 1) (s1 := slots + 6) (by omega) (by omega) (k ν2 e5))
    refine g_if_ne C (tgt := 1585) (dk kA23 39 rfl) (by decide) (fun _ => last) (fun z => ?_)
    have q0 : q = 0 := by
      have z : nI q = nI 0 := z
      rwa [eqN (by omega) (by omega)] at z
    refine g_aload_n C (i := 3) 3 rfl rfl (dk kA24 0 rfl) ?_
    refine g_iconst C (v := 0) (by decide) (dk kA24 1 rfl) ?_
    refine g_lald C k12 (by rw [kl]; decide) (dk kA24 2 rfl) ?_
    refine g_iload C (i := 6) 0 rfl (dk kA24 3 rfl) ?_
    refine g_i2l C (dk kA24 4 rfl) ?_
    refine g_lcmp C (dk kA24 5 rfl) ?_
    refine g_if_eq C (tgt := 1585) (dk kA24 6 rfl) (by decide) (fun _ => last) (fun z => absurd (lcmp_0 (e4 q0)) z)
  have k12' : (zk Z 145).1 = 12 := k12
  refine g_aload_n C (i := 1) 3 rfl rfl (dk kA22 35 rfl) ?_
  refine g_arg H (i := i) (n := 1) (v := 1) 4 0 (by decide) (by rw [L1, nI_add]) (by omega) rfl rfl (dk kA22 36 rfl) (dk kA22 37 rfl) (dk kA22 38 rfl) (dk kA22 39 rfl) (dk kA23 0 rfl) ?_
  refine g_arg H (i := i) (n := 2) (v := 2) 4 0 (by decide) (by rw [L2, nI_add]) (by omega) rfl rfl (dk kA23 1 rfl) (dk kA23 2 rfl) (dk kA23 3 rfl) (dk kA23 4 rfl) (dk kA23 5 rfl) ?_
  refine g_arg H (i := i) (n := 3) (v := 3) 4 0 (by decide) (by rw [L3, nI_add]) (by omega) rfl rfl (dk kA23 6 rfl) (dk kA23 7 rfl) (dk kA23 8 rfl) (dk kA23 9 rfl) (dk kA23 10 rfl) ?_
  refine g_aload_n C (i := 3) 1 rfl rfl (dk kA23 11 rfl) ?_
  rcases l_readableFor hν (sx (i + 1)) (sx (i + 2)) (sx (i + 3)) with ⟨ν1, v, ν2, e1, e2, e3, e4, e5⟩ | ⟨ck, ν1, w, ν2, hm, e1, e2, e3, e5⟩
  · exact g_callSW C E (As := [.ref (za Z 0), .int (sx (i + 1)), .int (sx (i + 2)), .int (sx (i + 3)), .ref (za Z 145)]) (rest := []) 5 (ct_L_readableFor (r := 0) (μ' := ν1) k0 k12 (by rw [hK]; exact e1)) (tb4 (List.mem_of_getElem? (i := 204) rfl) rfl) ⟨(tb4 (List.mem_of_getElem? (i := 205) rfl) rfl), (tb1 (List.mem_of_getElem? (i := 0) rfl) rfl), (tb4 (List.mem_of_getElem? (i := 206) rfl) rfl)⟩ ⟨by decide, by decide, by decide⟩ rfl (by decide) rfl (Nat.le_of_ble_eq_true rfl) ⟨by show cells + 0 ≤ _; omega, by show slots + 0 ≤ _; omega⟩ (dk kA23 12 rfl) (fin 0 ν1 v ν2 (cells + 0) (slots + 0) (by omega) e2 e3 (fun _ => e4) e5 (by omega) (by omega))
  · rcases List.mem_cons.mp hm with rfl | hm
    · exact g_callSW C E (As := [.ref (za Z 0), .int (sx (i + 1)), .int (sx (i + 2)), .int (sx (i + 3)), .ref (za Z 145)]) (rest := []) 5 (ctx1_L_readableFor (μ9 := ν1) k0 k12 H.2.2.2.1 (by rw [hK]; exact e1)) (tb4 (List.mem_of_getElem? (i := 204) rfl) rfl) ⟨(tb4 (List.mem_of_getElem? (i := 205) rfl) rfl), (tb1 (List.mem_of_getElem? (i := 0) rfl) rfl), (tb4 (List.mem_of_getElem? (i := 206) rfl) rfl)⟩ ⟨by decide, by decide, by decide⟩ rfl (by decide) rfl (Nat.le_of_ble_eq_true rfl) ⟨hcs.1, hcs.2⟩ (dk kA23 12 rfl) (fin 1 ν1 w ν2 (cells + 1) (slots + 6) (by omega) e2 e3 (fun z => absurd z (by decide)) e5 (by omega) (by omega))
    · rcases List.mem_cons.mp hm with rfl | hm
      · exact g_callSW C E (As := [.ref (za Z 0), .int (sx (i + 1)), .int (sx (i + 2)), .int (sx (i + 3)), .ref (za Z 145)]) (rest := []) 5 (ctx2_L_readableFor (μ9 := ν1) k0 k12 H.2.2.2.1 (by rw [hK]; exact e1)) (tb4 (List.mem_of_getElem? (i := 204) rfl) rfl) ⟨(tb4 (List.mem_of_getElem? (i := 205) rfl) rfl), (tb1 (List.mem_of_getElem? (i := 0) rfl) rfl), (tb4 (List.mem_of_getElem? (i := 206) rfl) rfl)⟩ ⟨by decide, by decide, by decide⟩ rfl (by decide) rfl (Nat.le_of_ble_eq_true rfl) ⟨hcs.1, hcs.2⟩ (dk kA23 12 rfl) (fin 2 ν1 w ν2 (cells + 1) (slots + 6) (by omega) e2 e3 (fun z => absurd z (by decide)) e5 (by omega) (by omega))
      · exact absurd hm List.not_mem_nil
set_option maxRecDepth 100000 in
set_option maxHeartbeats 4000000 in
theorem w_mostWorn (H : LX l Z X b L sx) {i : Nat} {ν : Mm} (hν : IV ν ν) (hcs : cells + 1 ≤ 601024 ∧ slots + 6 ≤ 7293034) (k : ∀ ν2, IV ν2 ν2 → G Z X 7 (cells + 1) (slots + 6) 23 (lvL Z b (i + 4)) [] ν2) : G Z X 7 cells slots 1588 (lvL Z b i) [] ν := by
  have C := H.1
  have E := H.2.1
  have hK := H.2.2.1
  obtain ⟨k0, k6, k12, kl⟩ := Hk H
  obtain ⟨v, ν2, e1, e2, e5⟩ := l_mostWorn hν
  have last : G Z X 7 (cells + 0 + 0) (slots + 0 + 0) 1741 (lvL Z b i) [] ν2 := w_tail H (g_widen (c1 := cells + 1) (s1 := slots + 6) (by omega) (by omega) (k ν2 e5))
  refine g_aload_n C (i := 1) 3 rfl rfl (dk kA24 10 rfl) ?_
  refine g_callV C E (As := []) (rest := []) 0 (ct_X7_mostWorn (r := v) k0 (by rw [hK]; exact e1)) (tb1 (List.mem_of_getElem? (i := 213) rfl) rfl) ⟨(tb1 (List.mem_of_getElem? (i := 214) rfl) rfl), (tb1 (List.mem_of_getElem? (i := 215) rfl) rfl), (tb1 (List.mem_of_getElem? (i := 1) rfl) rfl), (tb1 (List.mem_of_getElem? (i := 216) rfl) rfl)⟩ ⟨rfl, by decide, by decide, by decide⟩ rfl (by decide) k0 (by decide) rfl rfl (Nat.le_of_ble_eq_true rfl) ⟨by show cells + 0 ≤ _; omega, by show slots + 0 ≤ _; omega⟩ (dk kA24 11 rfl) ?_
  refine g_aload_n C (i := 2) 2 rfl rfl (dk kA24 12 rfl) ?_
  refine g_callV C E (As := []) (rest := [.int v]) 0 (ct_X8_mostWorn (r := v) (μ' := ν2) k6 (by rw [hK]; exact e2)) (tb6 (List.mem_of_getElem? (i := 13) rfl) rfl) ⟨(tb6 (List.mem_of_getElem? (i := 14) rfl) rfl), (tb6 (List.mem_of_getElem? (i := 15) rfl) rfl), (tb1 (List.mem_of_getElem? (i := 10) rfl) rfl), (tb6 (List.mem_of_getElem? (i := 16) rfl) rfl)⟩ ⟨rfl, by decide, by decide, by decide⟩ rfl (by decide) k6 (by decide) rfl rfl (Nat.le_of_ble_eq_true rfl) ⟨by show cells + 0 + 0 ≤ _; omega, by show slots + 0 + 0 ≤ _; omega⟩ (dk kA24 13 rfl) ?_
  exact g_icmp_eq C (tgt := 1741) (dk kA24 14 rfl) (by decide) (fun _ => last) (fun z => absurd rfl z)
set_option maxRecDepth 100000 in
set_option maxHeartbeats 4000000 in
theorem w_type (H : LX l Z X b L sx) {i : Nat} {ν : Mm} (hν : IV ν ν) (hi : i + 3 < L) (hcs : cells + 1 ≤ 601024 ∧ slots + 6 ≤ 7293034) (k : ∀ ν2, IV ν2 ν2 → G Z X 7 (cells + 1) (slots + 6) 23 (lvL Z b (i + 4)) [] ν2) : G Z X 7 cells slots 1601 (lvL Z b i) [] ν := by
  have C := H.1
  have E := H.2.1
  have hK := H.2.2.1
  obtain ⟨k0, k6, k12, kl⟩ := Hk H
  have fin : ∀ (q : Nat) ν1 v ν2 c1 s1, q < 4 → f_X8_type KF ν1 139 (sx (i + 1)) = some (v, ν2) → ν2.1 139 7 = nI q → (q = 0 → ν2.2.2 145 0 = Int32.toInt64 v) → IV ν2 ν2 → c1 ≤ cells + 1 → s1 ≤ slots + 6 → G Z X 7 c1 s1 1612 [(4, .int (nI i)), (3, .ref (za Z 145)), (2, .ref (za Z 139)), (1, .ref (za Z 0)), (0, .ref b)] [.int (nI q)] ν1 := by
    intro q ν1 v ν2 c1 s1 q4 e2 e3 e4 e5 hc hs
    refine g_istore C (i := 5) (lv' := (5, .int (nI q)) :: [(4, .int (nI i)), (3, .ref (za Z 145)), (2, .ref (za Z 139)), (1, .ref (za Z 0)), (0, .ref b)]) (dk kA24 25 rfl) (by decide) rfl ?_
    refine g_aload_n C (i := 2) 3 rfl rfl (dk kA24 26 rfl) ?_
    refine g_arg H (i := i) (n := 1) (v := 1) 5 1 (by decide) (by rw [L1, nI_add]) (by omega) rfl rfl (dk kA24 27 rfl) (dk kA24 28 rfl) (dk kA24 29 rfl) (dk kA24 30 rfl) (dk kA24 31 rfl) ?_
    refine g_callV C E (As := [.int (sx (i + 1))]) (rest := []) 1 (ct_X8_type (r := v) (μ' := ν2) k6 (by rw [hK]; exact e2)) (tb6 (List.mem_of_getElem? (i := 21) rfl) rfl) ⟨(tb6 (List.mem_of_getElem? (i := 22) rfl) rfl), (tb6 (List.mem_of_getElem? (i := 23) rfl) rfl), (tb1 (List.mem_of_getElem? (i := 10) rfl) rfl), (tb6 (List.mem_of_getElem? (i := 24) rfl) rfl)⟩ ⟨rfl, by decide, by decide, by decide⟩ rfl (by decide) k6 (by decide) rfl rfl (Nat.le_of_ble_eq_true rfl) ⟨by show c1 + 0 ≤ _; omega, by show s1 + 0 ≤ _; omega⟩ (dk kA24 32 rfl) ?_
    refine g_istore C (i := 6) (lv' := (6, .int v) :: (5, .int (nI q)) :: [(4, .int (nI i)), (3, .ref (za Z 145)), (2, .ref (za Z 139)), (1, .ref (za Z 0)), (0, .ref b)]) (dk kA24 33 rfl) (by decide) rfl ?_
    refine g_aload_n C (i := 2) 4 rfl rfl (dk kA24 34 rfl) ?_
    refine g_callV C E (As := []) (rest := []) 0 (ct_X8_thrown (r := nI q) (μ := ν2) k6 (by rw [← e3]; rfl)) (tb5 (List.mem_of_getElem? (i := 37) rfl) rfl) ⟨(tb5 (List.mem_of_getElem? (i := 38) rfl) rfl), (tb5 (List.mem_of_getElem? (i := 39) rfl) rfl), (tb1 (List.mem_of_getElem? (i := 10) rfl) rfl), (tb5 (List.mem_of_getElem? (i := 40) rfl) rfl)⟩ ⟨rfl, by decide, by decide, by decide⟩ rfl (by decide) k6 (by decide) rfl rfl (Nat.le_of_ble_eq_true rfl) ⟨by show c1 + 0 + 0 ≤ _; omega, by show s1 + 0 + 0 ≤ _; omega⟩ (dk kA24 35 rfl) ?_
    refine g_iload C (i := 5) 1 rfl (dk kA24 36 rfl) ?_
    refine g_icmp_eq C (tgt := 1637) (dk kA24 37 rfl) (by decide) (fun _ => ?_) (fun z => absurd rfl z)
    refine g_iload C (i := 5) 1 rfl (dk kA25 0 rfl) ?_
    have last : G Z X 7 (c1 + 0 + 0) (s1 + 0 + 0) 1654 ((6, .int v) :: (5, .int (nI q)) :: [(4, .int (nI i)), (3, .ref (za Z 145)), (2, .ref (za Z 139)), (1, .ref (za Z 0)), (0, .ref b)]) [] ν2 := by
      refine g_goto C (tgt := 1741) (dk kA25 11 rfl) (by decide) ?_
      refine g_sub [2, 3, 4, 5, 6] (lv' := lvL Z b i) rfl ?_
      exact w_tail H (g_widen (c1 := cells + 1) (s1 := slots + 6) (by omega) (by omega) (k ν2 e5))
    refine g_if_ne C (tgt := 1654) (dk kA25 1 rfl) (by decide) (fun _ => last) (fun z => ?_)
    have q0 : q = 0 := by
      have z : nI q = nI 0 := z
      rwa [eqN (by omega) (by omega)] at z
    refine g_aload_n C (i := 3) 3 rfl rfl (dk kA25 2 rfl) ?_
    refine g_iconst C (v := 0) (by decide) (dk kA25 3 rfl) ?_
    refine g_lald C k12 (by rw [kl]; decide) (dk kA25 4 rfl) ?_
    refine g_iload C (i := 6) 0 rfl (dk kA25 5 rfl) ?_
    refine g_i2l C (dk kA25 6 rfl) ?_
    refine g_lcmp C (dk kA25 7 rfl) ?_
    refine g_if_eq C (tgt := 1654) (dk kA25 8 rfl) (by decide) (fun _ => last) (fun z => absurd (lcmp_0 (e4 q0)) z)
  have k12' : (zk Z 145).1 = 12 := k12
  refine g_aload_n C (i := 1) 3 rfl rfl (dk kA24 17 rfl) ?_
  refine g_arg H (i := i) (n := 1) (v := 1) 4 0 (by decide) (by rw [L1, nI_add]) (by omega) rfl rfl (dk kA24 18 rfl) (dk kA24 19 rfl) (dk kA24 20 rfl) (dk kA24 21 rfl) (dk kA24 22 rfl) ?_
  refine g_aload_n C (i := 3) 1 rfl rfl (dk kA24 23 rfl) ?_
  rcases l_type hν (sx (i + 1)) with ⟨ν1, v, ν2, e1, e2, e3, e4, e5⟩ | ⟨ck, ν1, w, ν2, hm, e1, e2, e3, e5⟩
  · exact g_callSW C E (As := [.ref (za Z 0), .int (sx (i + 1)), .ref (za Z 145)]) (rest := []) 3 (ct_L_type (r := 0) (μ' := ν1) k0 k12 (by rw [hK]; exact e1)) (tb4 (List.mem_of_getElem? (i := 215) rfl) rfl) ⟨(tb4 (List.mem_of_getElem? (i := 216) rfl) rfl), (tb1 (List.mem_of_getElem? (i := 0) rfl) rfl), (tb4 (List.mem_of_getElem? (i := 217) rfl) rfl)⟩ ⟨by decide, by decide, by decide⟩ rfl (by decide) rfl (Nat.le_of_ble_eq_true rfl) ⟨by show cells + 0 ≤ _; omega, by show slots + 0 ≤ _; omega⟩ (dk kA24 24 rfl) (fin 0 ν1 v ν2 (cells + 0) (slots + 0) (by omega) e2 e3 (fun _ => e4) e5 (by omega) (by omega))
  · rcases List.mem_cons.mp hm with rfl | hm
    · exact g_callSW C E (As := [.ref (za Z 0), .int (sx (i + 1)), .ref (za Z 145)]) (rest := []) 3 (ctx2_L_type (μ9 := ν1) k0 k12 H.2.2.2.1 (by rw [hK]; exact e1)) (tb4 (List.mem_of_getElem? (i := 215) rfl) rfl) ⟨(tb4 (List.mem_of_getElem? (i := 216) rfl) rfl), (tb1 (List.mem_of_getElem? (i := 0) rfl) rfl), (tb4 (List.mem_of_getElem? (i := 217) rfl) rfl)⟩ ⟨by decide, by decide, by decide⟩ rfl (by decide) rfl (Nat.le_of_ble_eq_true rfl) ⟨hcs.1, hcs.2⟩ (dk kA24 24 rfl) (fin 1 ν1 w ν2 (cells + 1) (slots + 6) (by omega) e2 e3 (fun z => absurd z (by decide)) e5 (by omega) (by omega))
    · rcases List.mem_cons.mp hm with rfl | hm
      · exact g_callSW C E (As := [.ref (za Z 0), .int (sx (i + 1)), .ref (za Z 145)]) (rest := []) 3 (ctx3_L_type (μ9 := ν1) k0 k12 H.2.2.2.1 (by rw [hK]; exact e1)) (tb4 (List.mem_of_getElem? (i := 215) rfl) rfl) ⟨(tb4 (List.mem_of_getElem? (i := 216) rfl) rfl), (tb1 (List.mem_of_getElem? (i := 0) rfl) rfl), (tb4 (List.mem_of_getElem? (i := 217) rfl) rfl)⟩ ⟨by decide, by decide, by decide⟩ rfl (by decide) rfl (Nat.le_of_ble_eq_true rfl) ⟨hcs.1, hcs.2⟩ (dk kA24 24 rfl) (fin 2 ν1 w ν2 (cells + 1) (slots + 6) (by omega) e2 e3 (fun z => absurd z (by decide)) e5 (by omega) (by omega))
      · exact absurd hm List.not_mem_nil
set_option maxRecDepth 100000 in
set_option maxHeartbeats 4000000 in
theorem w_clearCommands (H : LX l Z X b L sx) {i : Nat} {ν : Mm} (hν : IV ν ν) (hcs : cells + 1 ≤ 601024 ∧ slots + 6 ≤ 7293034) (k : ∀ ν2, IV ν2 ν2 → G Z X 7 (cells + 1) (slots + 6) 23 (lvL Z b (i + 4)) [] ν2) : G Z X 7 cells slots 1657 (lvL Z b i) [] ν := by
  have C := H.1
  have E := H.2.1
  have hK := H.2.2.1
  obtain ⟨k0, k6, k12, kl⟩ := Hk H
  obtain ⟨v, ν1, ν2, e1, e2, e5⟩ := l_clearCommands hν
  have last : G Z X 7 (cells + 0 + 0) (slots + 0 + 0) 1741 (lvL Z b i) [] ν2 := w_tail H (g_widen (c1 := cells + 1) (s1 := slots + 6) (by omega) (by omega) (k ν2 e5))
  refine g_aload_n C (i := 1) 3 rfl rfl (dk kA25 12 rfl) ?_
  refine g_callV C E (As := []) (rest := []) 0 (ct_X7_clearCommands (r := v) (μ' := ν1) k0 (by rw [hK]; exact e1)) (tb1 (List.mem_of_getElem? (i := 221) rfl) rfl) ⟨(tb1 (List.mem_of_getElem? (i := 222) rfl) rfl), (tb1 (List.mem_of_getElem? (i := 223) rfl) rfl), (tb1 (List.mem_of_getElem? (i := 1) rfl) rfl), (tb1 (List.mem_of_getElem? (i := 224) rfl) rfl)⟩ ⟨rfl, by decide, by decide, by decide⟩ rfl (by decide) k0 (by decide) rfl rfl (Nat.le_of_ble_eq_true rfl) ⟨by show cells + 0 ≤ _; omega, by show slots + 0 ≤ _; omega⟩ (dk kA25 13 rfl) ?_
  refine g_aload_n C (i := 2) 2 rfl rfl (dk kA25 14 rfl) ?_
  refine g_callV C E (As := []) (rest := [.int v]) 0 (ct_X8_clearCommands (r := v) (μ' := ν2) k6 (by rw [hK]; exact e2)) (tb6 (List.mem_of_getElem? (i := 25) rfl) rfl) ⟨(tb6 (List.mem_of_getElem? (i := 26) rfl) rfl), (tb6 (List.mem_of_getElem? (i := 27) rfl) rfl), (tb1 (List.mem_of_getElem? (i := 10) rfl) rfl), (tb6 (List.mem_of_getElem? (i := 28) rfl) rfl)⟩ ⟨rfl, by decide, by decide, by decide⟩ rfl (by decide) k6 (by decide) rfl rfl (Nat.le_of_ble_eq_true rfl) ⟨by show cells + 0 + 0 ≤ _; omega, by show slots + 0 + 0 ≤ _; omega⟩ (dk kA25 15 rfl) ?_
  exact g_icmp_eq C (tgt := 1741) (dk kA25 16 rfl) (by decide) (fun _ => last) (fun z => absurd rfl z)
set_option maxRecDepth 100000 in
set_option maxHeartbeats 4000000 in
theorem w_runCommands (H : LX l Z X b L sx) {i : Nat} {ν : Mm} (hν : IV ν ν) (hcs : cells + 1 ≤ 601024 ∧ slots + 6 ≤ 7293034) (k : ∀ ν2, IV ν2 ν2 → G Z X 7 (cells + 1) (slots + 6) 23 (lvL Z b (i + 4)) [] ν2) : G Z X 7 cells slots 1670 (lvL Z b i) [] ν := by
  have C := H.1
  have E := H.2.1
  have hK := H.2.2.1
  obtain ⟨k0, k6, k12, kl⟩ := Hk H
  obtain ⟨v, ν1, ν2, e1, e2, e5⟩ := l_runCommands hν
  have last : G Z X 7 (cells + 0 + 0) (slots + 0 + 0) 1741 (lvL Z b i) [] ν2 := w_tail H (g_widen (c1 := cells + 1) (s1 := slots + 6) (by omega) (by omega) (k ν2 e5))
  refine g_aload_n C (i := 1) 3 rfl rfl (dk kA25 19 rfl) ?_
  refine g_callV C E (As := []) (rest := []) 0 (ct_X7_runCommands (r := v) (μ' := ν1) k0 (by rw [hK]; exact e1)) (tb1 (List.mem_of_getElem? (i := 229) rfl) rfl) ⟨(tb1 (List.mem_of_getElem? (i := 230) rfl) rfl), (tb1 (List.mem_of_getElem? (i := 231) rfl) rfl), (tb1 (List.mem_of_getElem? (i := 1) rfl) rfl), (tb1 (List.mem_of_getElem? (i := 232) rfl) rfl)⟩ ⟨rfl, by decide, by decide, by decide⟩ rfl (by decide) k0 (by decide) rfl rfl (Nat.le_of_ble_eq_true rfl) ⟨by show cells + 0 ≤ _; omega, by show slots + 0 ≤ _; omega⟩ (dk kA25 20 rfl) ?_
  refine g_aload_n C (i := 2) 2 rfl rfl (dk kA25 21 rfl) ?_
  refine g_callV C E (As := []) (rest := [.int v]) 0 (ct_X8_runCommands (r := v) (μ' := ν2) k6 (by rw [hK]; exact e2)) (tb6 (List.mem_of_getElem? (i := 29) rfl) rfl) ⟨(tb6 (List.mem_of_getElem? (i := 30) rfl) rfl), (tb6 (List.mem_of_getElem? (i := 31) rfl) rfl), (tb1 (List.mem_of_getElem? (i := 10) rfl) rfl), (tb6 (List.mem_of_getElem? (i := 32) rfl) rfl)⟩ ⟨rfl, by decide, by decide, by decide⟩ rfl (by decide) k6 (by decide) rfl rfl (Nat.le_of_ble_eq_true rfl) ⟨by show cells + 0 + 0 ≤ _; omega, by show slots + 0 + 0 ≤ _; omega⟩ (dk kA25 22 rfl) ?_
  exact g_icmp_eq C (tgt := 1741) (dk kA25 23 rfl) (by decide) (fun _ => last) (fun z => absurd rfl z)
set_option maxRecDepth 100000 in
set_option maxHeartbeats 4000000 in
theorem w_undo (H : LX l Z X b L sx) {i : Nat} {ν : Mm} (hν : IV ν ν) (hi : i + 3 < L) (hcs : cells + 1 ≤ 601024 ∧ slots + 6 ≤ 7293034) (k : ∀ ν2, IV ν2 ν2 → G Z X 7 (cells + 1) (slots + 6) 23 (lvL Z b (i + 4)) [] ν2) : G Z X 7 cells slots 1683 (lvL Z b i) [] ν := by
  have C := H.1
  have E := H.2.1
  have hK := H.2.2.1
  obtain ⟨k0, k6, k12, kl⟩ := Hk H
  have fin : ∀ (q : Nat) ν1 v ν2 c1 s1, q < 4 → f_X8_undo KF ν1 139 = some (v, ν2) → ν2.1 139 7 = nI q → (q = 0 → ν2.2.2 145 0 = Int32.toInt64 v) → IV ν2 ν2 → c1 ≤ cells + 1 → s1 ≤ slots + 6 → G Z X 7 c1 s1 1688 [(4, .int (nI i)), (3, .ref (za Z 145)), (2, .ref (za Z 139)), (1, .ref (za Z 0)), (0, .ref b)] [.int (nI q)] ν1 := by
    intro q ν1 v ν2 c1 s1 q4 e2 e3 e4 e5 hc hs
    refine g_istore C (i := 5) (lv' := (5, .int (nI q)) :: [(4, .int (nI i)), (3, .ref (za Z 145)), (2, .ref (za Z 139)), (1, .ref (za Z 0)), (0, .ref b)]) (dk kA25 29 rfl) (by decide) rfl ?_
    refine g_aload_n C (i := 2) 3 rfl rfl (dk kA25 30 rfl) ?_
    refine g_callV C E (As := []) (rest := []) 0 (ct_X8_undo (r := v) (μ' := ν2) k6 (by rw [hK]; exact e2)) (tb6 (List.mem_of_getElem? (i := 82) rfl) rfl) ⟨(tb6 (List.mem_of_getElem? (i := 83) rfl) rfl), (tb6 (List.mem_of_getElem? (i := 84) rfl) rfl), (tb1 (List.mem_of_getElem? (i := 10) rfl) rfl), (tb6 (List.mem_of_getElem? (i := 85) rfl) rfl)⟩ ⟨rfl, by decide, by decide, by decide⟩ rfl (by decide) k6 (by decide) rfl rfl (Nat.le_of_ble_eq_true rfl) ⟨by show c1 + 0 ≤ _; omega, by show s1 + 0 ≤ _; omega⟩ (dk kA25 31 rfl) ?_
    refine g_istore C (i := 6) (lv' := (6, .int v) :: (5, .int (nI q)) :: [(4, .int (nI i)), (3, .ref (za Z 145)), (2, .ref (za Z 139)), (1, .ref (za Z 0)), (0, .ref b)]) (dk kA25 32 rfl) (by decide) rfl ?_
    refine g_aload_n C (i := 2) 4 rfl rfl (dk kA25 33 rfl) ?_
    refine g_callV C E (As := []) (rest := []) 0 (ct_X8_thrown (r := nI q) (μ := ν2) k6 (by rw [← e3]; rfl)) (tb5 (List.mem_of_getElem? (i := 37) rfl) rfl) ⟨(tb5 (List.mem_of_getElem? (i := 38) rfl) rfl), (tb5 (List.mem_of_getElem? (i := 39) rfl) rfl), (tb1 (List.mem_of_getElem? (i := 10) rfl) rfl), (tb5 (List.mem_of_getElem? (i := 40) rfl) rfl)⟩ ⟨rfl, by decide, by decide, by decide⟩ rfl (by decide) k6 (by decide) rfl rfl (Nat.le_of_ble_eq_true rfl) ⟨by show c1 + 0 + 0 ≤ _; omega, by show s1 + 0 + 0 ≤ _; omega⟩ (dk kA25 34 rfl) ?_
    refine g_iload C (i := 5) 1 rfl (dk kA25 35 rfl) ?_
    refine g_icmp_eq C (tgt := 1707) (dk kA25 36 rfl) (by decide) (fun _ => ?_) (fun z => absurd rfl z)
    refine g_iload C (i := 5) 1 rfl (dk kA25 39 rfl) ?_
    have last : G Z X 7 (c1 + 0 + 0) (s1 + 0 + 0) 1724 ((6, .int v) :: (5, .int (nI q)) :: [(4, .int (nI i)), (3, .ref (za Z 145)), (2, .ref (za Z 139)), (1, .ref (za Z 0)), (0, .ref b)]) [] ν2 := by
      refine g_goto C (tgt := 1741) (dk kA26 10 rfl) (by decide) ?_
      refine g_sub [2, 3, 4, 5, 6] (lv' := lvL Z b i) rfl ?_
      exact w_tail H (g_widen (c1 := cells + 1) (s1 := slots + 6) (by omega) (by omega) (k ν2 e5))
    refine g_if_ne C (tgt := 1724) (dk kA26 0 rfl) (by decide) (fun _ => last) (fun z => ?_)
    have q0 : q = 0 := by
      have z : nI q = nI 0 := z
      rwa [eqN (by omega) (by omega)] at z
    refine g_aload_n C (i := 3) 3 rfl rfl (dk kA26 1 rfl) ?_
    refine g_iconst C (v := 0) (by decide) (dk kA26 2 rfl) ?_
    refine g_lald C k12 (by rw [kl]; decide) (dk kA26 3 rfl) ?_
    refine g_iload C (i := 6) 0 rfl (dk kA26 4 rfl) ?_
    refine g_i2l C (dk kA26 5 rfl) ?_
    refine g_lcmp C (dk kA26 6 rfl) ?_
    refine g_if_eq C (tgt := 1724) (dk kA26 7 rfl) (by decide) (fun _ => last) (fun z => absurd (lcmp_0 (e4 q0)) z)
  have k12' : (zk Z 145).1 = 12 := k12
  refine g_aload_n C (i := 1) 3 rfl rfl (dk kA25 26 rfl) ?_
  refine g_aload_n C (i := 3) 1 rfl rfl (dk kA25 27 rfl) ?_
  rcases l_undo hν with ⟨ν1, v, ν2, e1, e2, e3, e4, e5⟩ | ⟨ck, ν1, w, ν2, hm, e1, e2, e3, e5⟩
  · exact g_callSW C E (As := [.ref (za Z 0), .ref (za Z 145)]) (rest := []) 2 (ct_L_undo (r := 0) (μ' := ν1) k0 k12 (by rw [hK]; exact e1)) (tb4 (List.mem_of_getElem? (i := 230) rfl) rfl) ⟨(tb4 (List.mem_of_getElem? (i := 231) rfl) rfl), (tb1 (List.mem_of_getElem? (i := 0) rfl) rfl), (tb4 (List.mem_of_getElem? (i := 232) rfl) rfl)⟩ ⟨by decide, by decide, by decide⟩ rfl (by decide) rfl (Nat.le_of_ble_eq_true rfl) ⟨by show cells + 0 ≤ _; omega, by show slots + 0 ≤ _; omega⟩ (dk kA25 28 rfl) (fin 0 ν1 v ν2 (cells + 0) (slots + 0) (by omega) e2 e3 (fun _ => e4) e5 (by omega) (by omega))
  · rcases List.mem_cons.mp hm with rfl | hm
    · exact g_callSW C E (As := [.ref (za Z 0), .ref (za Z 145)]) (rest := []) 2 (ctx3_L_undo (μ9 := ν1) k0 k12 H.2.2.2.1 (by rw [hK]; exact e1)) (tb4 (List.mem_of_getElem? (i := 230) rfl) rfl) ⟨(tb4 (List.mem_of_getElem? (i := 231) rfl) rfl), (tb1 (List.mem_of_getElem? (i := 0) rfl) rfl), (tb4 (List.mem_of_getElem? (i := 232) rfl) rfl)⟩ ⟨by decide, by decide, by decide⟩ rfl (by decide) rfl (Nat.le_of_ble_eq_true rfl) ⟨hcs.1, hcs.2⟩ (dk kA25 28 rfl) (fin 1 ν1 w ν2 (cells + 1) (slots + 6) (by omega) e2 e3 (fun z => absurd z (by decide)) e5 (by omega) (by omega))
    · exact absurd hm List.not_mem_nil
set_option maxRecDepth 100000 in
set_option maxHeartbeats 4000000 in
theorem w_digest (H : LX l Z X b L sx) {i : Nat} {ν : Mm} (hν : IV ν ν) (hcs : cells + 1 ≤ 601024 ∧ slots + 6 ≤ 7293034) (k : ∀ ν2, IV ν2 ν2 → G Z X 7 (cells + 1) (slots + 6) 23 (lvL Z b (i + 4)) [] ν2) : G Z X 7 cells slots 1727 (lvL Z b i) [] ν := by
  have C := H.1
  have E := H.2.1
  have hK := H.2.2.1
  obtain ⟨k0, k6, k12, kl⟩ := Hk H
  obtain ⟨v, ν1, ν2, e1, e2, e5⟩ := l_digest hν
  have last : G Z X 7 (cells + 0 + 0) (slots + 0 + 0) 1741 (lvL Z b i) [] ν2 := w_tail H (g_widen (c1 := cells + 1) (s1 := slots + 6) (by omega) (by omega) (k ν2 e5))
  refine g_aload_n C (i := 1) 3 rfl rfl (dk kA26 11 rfl) ?_
  refine g_callV C E (As := []) (rest := []) 0 (ct_X7_digest (r := v) (μ' := ν1) k0 (by rw [hK]; exact e1)) (tb3 (List.mem_of_getElem? (i := 90) rfl) rfl) ⟨(tb3 (List.mem_of_getElem? (i := 91) rfl) rfl), (tb3 (List.mem_of_getElem? (i := 92) rfl) rfl), (tb1 (List.mem_of_getElem? (i := 1) rfl) rfl), (tb3 (List.mem_of_getElem? (i := 93) rfl) rfl)⟩ ⟨rfl, by decide, by decide, by decide⟩ rfl (by decide) k0 (by decide) rfl rfl (Nat.le_of_ble_eq_true rfl) ⟨by show cells + 0 ≤ _; omega, by show slots + 0 ≤ _; omega⟩ (dk kA26 12 rfl) ?_
  refine g_aload_n C (i := 2) 2 rfl rfl (dk kA26 13 rfl) ?_
  refine g_callV C E (As := []) (rest := [.long v]) 0 (ct_X8_digest (r := v) (μ' := ν2) k6 (by rw [hK]; exact e2)) (tb6 (List.mem_of_getElem? (i := 86) rfl) rfl) ⟨(tb6 (List.mem_of_getElem? (i := 87) rfl) rfl), (tb6 (List.mem_of_getElem? (i := 88) rfl) rfl), (tb1 (List.mem_of_getElem? (i := 10) rfl) rfl), (tb6 (List.mem_of_getElem? (i := 89) rfl) rfl)⟩ ⟨rfl, by decide, by decide, by decide⟩ rfl (by decide) k6 (by decide) rfl rfl (Nat.le_of_ble_eq_true rfl) ⟨by show cells + 0 + 0 ≤ _; omega, by show slots + 0 + 0 ≤ _; omega⟩ (dk kA26 14 rfl) ?_
  refine g_lcmp C (dk kA26 15 rfl) ?_
  exact g_if_eq C (tgt := 1741) (dk kA26 16 rfl) (by decide) (fun _ => last) (fun z => absurd (lcmp_0 rfl) z)
end LawC
