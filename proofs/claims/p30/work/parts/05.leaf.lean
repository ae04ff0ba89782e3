def qJ6_bitCount_0f7a4 : List (Nat × Instr × Nat) := [(0, .iload_n 0, 1), (1, .iload_n 0, 1), (2, .iconst 1, 1), (3, .iushr, 1), (4, .ldc_w 265, 3), (7, .iand, 1), (8, .isub, 1), (9, .istore_n 0, 1), (10, .iload_n 0, 1), (11, .ldc_w 266, 3), (14, .iand, 1), (15, .iload_n 0, 1), (16, .iconst 2, 1), (17, .iushr, 1), (18, .ldc_w 266, 3), (21, .iand, 1), (22, .iadd, 1), (23, .istore_n 0, 1), (24, .iload_n 0, 1), (25, .iload_n 0, 1), (26, .iconst 4, 1), (27, .iushr, 1), (28, .iadd, 1), (29, .ldc_w 267, 3), (32, .iand, 1), (33, .istore_n 0, 1), (34, .iload_n 0, 1), (35, .iload_n 0, 1), (36, .bipush 8, 2), (38, .iushr, 1), (39, .iadd, 1), (40, .istore_n 0, 1), (41, .iload_n 0, 1), (42, .iload_n 0, 1), (43, .bipush 16, 2), (45, .iushr, 1), (46, .iadd, 1), (47, .istore_n 0, 1), (48, .iload_n 0, 1), (49, .bipush 63, 2), (51, .iand, 1), (52, .ireturn, 1)]
theorem kJ6_bitCount_0f7a4 : ∀ q ∈ qJ6_bitCount_0f7a4, decode cJ6_bitCount_0f7a4 q.1 = .ok q.2 := by decide +kernel
def f_J6_bitCount_0f7a4 (a0 : Int32) : Option (Int32) :=
  lt1 (α := Int32) (a0 - (((Int32.toUInt32 a0 >>> (Int32.toUInt32 1 &&& Int32.toUInt32 31)).toInt32) &&& 1431655765)) fun x1 => lt1 (α := Int32) ((x1 &&& 858993459) + (((Int32.toUInt32 x1 >>> (Int32.toUInt32 2 &&& Int32.toUInt32 31)).toInt32) &&& 858993459)) fun x2 => lt1 (α := Int32) ((x2 + ((Int32.toUInt32 x2 >>> (Int32.toUInt32 4 &&& Int32.toUInt32 31)).toInt32)) &&& 252645135) fun x3 => lt1 (α := Int32) (x3 + ((Int32.toUInt32 x3 >>> (Int32.toUInt32 8 &&& Int32.toUInt32 31)).toInt32)) fun x4 => lt1 (α := Int32) (x4 + ((Int32.toUInt32 x4 >>> (Int32.toUInt32 16 &&& Int32.toUInt32 31)).toInt32)) fun x5 => some (x5 &&& 63)
set_option maxRecDepth 100000 in
set_option maxHeartbeats 4000000 in
theorem t_J6_bitCount_0f7a4 {l : Launch} {Z : ZZ} {X : XX} (μ : Mm) (a0 : Int32) (r : Int32)  (h : f_J6_bitCount_0f7a4 a0 = some r) (C : Cx l Z false X cJ6_bitCount_0f7a4 RJ6 1 (some .int)) (E : Ex Z X 0 0 0 (some (.int r)) Z μ) : G Z X 1 0 0 0 [(0, .int a0)] [] μ := by
  unfold f_J6_bitCount_0f7a4 at h
  refine g_iload_n C (i := 0) 0 rfl rfl (dk kJ6_bitCount_0f7a4 0 rfl) ?_
  refine g_iload_n C (i := 0) 0 rfl rfl (dk kJ6_bitCount_0f7a4 1 rfl) ?_
  refine g_iconst C (v := 1) (by decide) (dk kJ6_bitCount_0f7a4 2 rfl) ?_
  refine g_iushr C (dk kJ6_bitCount_0f7a4 3 rfl) ?_
  refine g_ldcw C (v := 1431655765) (C.w wd_3_101) (dk kJ6_bitCount_0f7a4 4 rfl) ?_
  refine g_iand C (dk kJ6_bitCount_0f7a4 5 rfl) ?_
  refine g_isub C (dk kJ6_bitCount_0f7a4 6 rfl) ?_
  obtain ⟨x1, ex1, h⟩ := lt_inv h
  refine g_nmi ex1 ?_
  refine g_istore_n C (i := 0) (lv' := [(0, .int x1)]) (dk kJ6_bitCount_0f7a4 7 rfl) rfl (by decide) rfl ?_
  refine g_iload_n C (i := 0) 0 rfl rfl (dk kJ6_bitCount_0f7a4 8 rfl) ?_
  refine g_ldcw C (v := 858993459) (C.w wd_3_102) (dk kJ6_bitCount_0f7a4 9 rfl) ?_
  refine g_iand C (dk kJ6_bitCount_0f7a4 10 rfl) ?_
  refine g_iload_n C (i := 0) 0 rfl rfl (dk kJ6_bitCount_0f7a4 11 rfl) ?_
  refine g_iconst C (v := 2) (by decide) (dk kJ6_bitCount_0f7a4 12 rfl) ?_
  refine g_iushr C (dk kJ6_bitCount_0f7a4 13 rfl) ?_
  refine g_ldcw C (v := 858993459) (C.w wd_3_102) (dk kJ6_bitCount_0f7a4 14 rfl) ?_
  refine g_iand C (dk kJ6_bitCount_0f7a4 15 rfl) ?_
  refine g_iadd C (dk kJ6_bitCount_0f7a4 16 rfl) ?_
  obtain ⟨x2, ex2, h⟩ := lt_inv h
  refine g_nmi ex2 ?_
  refine g_istore_n C (i := 0) (lv' := [(0, .int x2)]) (dk kJ6_bitCount_0f7a4 17 rfl) rfl (by decide) rfl ?_
  refine g_iload_n C (i := 0) 0 rfl rfl (dk kJ6_bitCount_0f7a4 18 rfl) ?_
  refine g_iload_n C (i := 0) 0 rfl rfl (dk kJ6_bitCount_0f7a4 19 rfl) ?_
  refine g_iconst C (v := 4) (by decide) (dk kJ6_bitCount_0f7a4 20 rfl) ?_
  refine g_iushr C (dk kJ6_bitCount_0f7a4 21 rfl) ?_
  refine g_iadd C (dk kJ6_bitCount_0f7a4 22 rfl) ?_
  refine g_ldcw C (v := 252645135) (C.w wd_3_103) (dk kJ6_bitCount_0f7a4 23 rfl) ?_
  refine g_iand C (dk kJ6_bitCount_0f7a4 24 rfl) ?_
  obtain ⟨x3, ex3, h⟩ := lt_inv h
  refine g_nmi ex3 ?_
  refine g_istore_n C (i := 0) (lv' := [(0, .int x3)]) (dk kJ6_bitCount_0f7a4 25 rfl) rfl (by decide) rfl ?_
  refine g_iload_n C (i := 0) 0 rfl rfl (dk kJ6_bitCount_0f7a4 26 rfl) ?_
  refine g_iload_n C (i := 0) 0 rfl rfl (dk kJ6_bitCount_0f7a4 27 rfl) ?_
  refine g_bipush C (v := 8) (by decide) (dk kJ6_bitCount_0f7a4 28 rfl) ?_
  refine g_iushr C (dk kJ6_bitCount_0f7a4 29 rfl) ?_
  refine g_iadd C (dk kJ6_bitCount_0f7a4 30 rfl) ?_
  obtain ⟨x4, ex4, h⟩ := lt_inv h
  refine g_nmi ex4 ?_
  refine g_istore_n C (i := 0) (lv' := [(0, .int x4)]) (dk kJ6_bitCount_0f7a4 31 rfl) rfl (by decide) rfl ?_
  refine g_iload_n C (i := 0) 0 rfl rfl (dk kJ6_bitCount_0f7a4 32 rfl) ?_
  refine g_iload_n C (i := 0) 0 rfl rfl (dk kJ6_bitCount_0f7a4 33 rfl) ?_
  refine g_bipush C (v := 16) (by decide) (dk kJ6_bitCount_0f7a4 34 rfl) ?_
  refine g_iushr C (dk kJ6_bitCount_0f7a4 35 rfl) ?_
  refine g_iadd C (dk kJ6_bitCount_0f7a4 36 rfl) ?_
  obtain ⟨x5, ex5, h⟩ := lt_inv h
  refine g_nmi ex5 ?_
  refine g_istore_n C (i := 0) (lv' := [(0, .int x5)]) (dk kJ6_bitCount_0f7a4 37 rfl) rfl (by decide) rfl ?_
  refine g_iload_n C (i := 0) 0 rfl rfl (dk kJ6_bitCount_0f7a4 38 rfl) ?_
  refine g_bipush C (v := 63) (by decide) (dk kJ6_bitCount_0f7a4 39 rfl) ?_
  refine g_iand C (dk kJ6_bitCount_0f7a4 40 rfl) ?_
  have h9 := Option.some.inj h
  subst h9
  exact g_iret C E rfl rfl (Nat.le_refl 0) (Nat.le_refl 0) (dk kJ6_bitCount_0f7a4 41 rfl)
theorem ct_J6_bitCount_0f7a4 {l : Launch} {Z : ZZ} {μ : Mm} {a0 : Int32} {r : Int32}  (h : f_J6_bitCount_0f7a4 a0 = some r) : CtM l Z false yJ6_bitCount_0f7a4 cJ6_bitCount_0f7a4 1 (some .int) 0 0 0 [.int a0] μ (some (.int r)) Z μ := ct_of rfl rfl (Nat.le_of_ble_eq_true rfl) (fun X C E => t_J6_bitCount_0f7a4 μ a0 r  h C E)

def qX2_rentNothing : List (Nat × Instr × Nat) := [(0, .aload_n 0, 1), (1, .iconst (-1), 1), (2, .putfield 9, 3), (5, .aload_n 0, 1), (6, .iconst (-1), 1), (7, .putfield 15, 3), (10, .return_, 1)]
theorem kX2_rentNothing : ∀ q ∈ qX2_rentNothing, decode cX2_rentNothing q.1 = .ok q.2 := by decide +kernel
def f_X2_rentNothing (K : Nat → Nat × Nat) (μ : Mm) (a0 : Nat) : Option (Mm) :=
  lt1 (sI μ a0 0 (-1)) fun μ1 => lt1 (sI μ1 a0 1 (-1)) fun μ2 => some (μ2)
set_option maxRecDepth 100000 in
set_option maxHeartbeats 4000000 in
theorem t_X2_rentNothing {l : Launch} {Z : ZZ} {X : XX} (μ : Mm) (a0 : Nat) (μ' : Mm) (k0 : (zk Z a0).1 = 1) (h : f_X2_rentNothing (zk Z) μ a0 = some μ') (C : Cx l Z false X cX2_rentNothing RX2 1 none) (E : Ex Z X 0 0 0 none Z μ') : G Z X 1 0 0 0 [(0, .ref (za Z a0))] [] μ := by
  unfold f_X2_rentNothing at h
  refine g_aload_n C (i := 0) 0 rfl rfl (dk kX2_rentNothing 0 rfl) ?_
  refine g_iconst C (v := (-1)) (by decide) (dk kX2_rentNothing 1 rfl) ?_
  obtain ⟨μ1, eμ1, h⟩ := lt_inv h
  refine pI_1_0 C k0 (C.w wd_1_134) eμ1 (dk kX2_rentNothing 2 rfl) ?_
  refine g_aload_n C (i := 0) 0 rfl rfl (dk kX2_rentNothing 3 rfl) ?_
  refine g_iconst C (v := (-1)) (by decide) (dk kX2_rentNothing 4 rfl) ?_
  obtain ⟨μ2, eμ2, h⟩ := lt_inv h
  refine pI_1_1 C k0 (C.w wd_1_136) eμ2 (dk kX2_rentNothing 5 rfl) ?_
  have h9 := Option.some.inj h
  subst h9
  exact g_vret C E (Nat.le_refl 0) (Nat.le_refl 0) (dk kX2_rentNothing 6 rfl)
theorem ct_X2_rentNothing {l : Launch} {Z : ZZ} {μ : Mm} {a0 : Nat} {μ' : Mm} (k0 : (zk Z a0).1 = 1) (h : f_X2_rentNothing (zk Z) μ a0 = some μ') : CtM l Z false yX2_rentNothing cX2_rentNothing 1 none 0 0 0 [.ref (za Z a0)] μ none Z μ' := ct_of rfl rfl (Nat.le_of_ble_eq_true rfl) (fun X C E => t_X2_rentNothing μ a0 μ' k0 h C E)

def qX2_rented : List (Nat × Instr × Nat) := [(0, .aload_n 0, 1), (1, .getfield 9, 3), (4, .iconst (-1), 1), (5, .if_icmp .ne 7, 3), (8, .iconst 0, 1), (9, .goto 14, 3), (12, .aload_n 0, 1), (13, .getfield 15, 3), (16, .aload_n 0, 1), (17, .getfield 9, 3), (20, .isub, 1), (21, .iconst 1, 1), (22, .iadd, 1), (23, .ireturn, 1)]
theorem kX2_rented : ∀ q ∈ qX2_rented, decode cX2_rented q.1 = .ok q.2 := by decide +kernel
def f_X2_rented (K : Nat → Nat × Nat) (μ : Mm) (a0 : Nat) : Option (Int32) :=
  if (μ.1 a0 0) = (-1) then (some 0) else (some (((μ.1 a0 1) - (μ.1 a0 0)) + 1))
set_option maxRecDepth 100000 in
set_option maxHeartbeats 4000000 in
theorem t_X2_rented {l : Launch} {Z : ZZ} {X : XX} (μ : Mm) (a0 : Nat) (r : Int32) (k0 : (zk Z a0).1 = 1) (h : f_X2_rented (zk Z) μ a0 = some r) (C : Cx l Z false X cX2_rented RX2 1 (some .int)) (E : Ex Z X 0 0 0 (some (.int r)) Z μ) : G Z X 1 0 0 0 [(0, .ref (za Z a0))] [] μ := by
  unfold f_X2_rented at h
  refine g_aload_n C (i := 0) 0 rfl rfl (dk kX2_rented 0 rfl) ?_
  refine gI_1_0 C k0 (C.w wd_1_134) (dk kX2_rented 1 rfl) ?_
  refine g_iconst C (v := (-1)) (by decide) (dk kX2_rented 2 rfl) ?_
  refine g_icmp_ne C (tgt := 12) (dk kX2_rented 3 rfl) (by decide) (fun c1 => ?_) (fun c1 => ?_)
  · replace h := ite_f h c1
    refine g_aload_n C (i := 0) 0 rfl rfl (dk kX2_rented 6 rfl) ?_
    refine gI_1_1 C k0 (C.w wd_1_136) (dk kX2_rented 7 rfl) ?_
    refine g_aload_n C (i := 0) 0 rfl rfl (dk kX2_rented 8 rfl) ?_
    refine gI_1_0 C k0 (C.w wd_1_134) (dk kX2_rented 9 rfl) ?_
    refine g_isub C (dk kX2_rented 10 rfl) ?_
    refine g_iconst C (v := 1) (by decide) (dk kX2_rented 11 rfl) ?_
    refine g_iadd C (dk kX2_rented 12 rfl) ?_
    have h9 := Option.some.inj h
    subst h9
    exact g_iret C E rfl rfl (Nat.le_refl 0) (Nat.le_refl 0) (dk kX2_rented 13 rfl)
  · replace h := ite_t h c1
    refine g_iconst C (v := 0) (by decide) (dk kX2_rented 4 rfl) ?_
    refine g_goto C (tgt := 23) (dk kX2_rented 5 rfl) (by decide) ?_
    have h9 := Option.some.inj h
    subst h9
    exact g_iret C E rfl rfl (Nat.le_refl 0) (Nat.le_refl 0) (dk kX2_rented 13 rfl)
theorem ct_X2_rented {l : Launch} {Z : ZZ} {μ : Mm} {a0 : Nat} {r : Int32} (k0 : (zk Z a0).1 = 1) (h : f_X2_rented (zk Z) μ a0 = some r) : CtM l Z false yX2_rented cX2_rented 1 (some .int) 0 0 0 [.ref (za Z a0)] μ (some (.int r)) Z μ := ct_of rfl rfl (Nat.le_of_ble_eq_true rfl) (fun X C E => t_X2_rented μ a0 r k0 h C E)

def qX2_rentsAllOf : List (Nat × Instr × Nat) := [(0, .aload_n 0, 1), (1, .getfield 9, 3), (4, .iconst (-1), 1), (5, .if_icmp .eq 23, 3), (8, .aload_n 0, 1), (9, .getfield 9, 3), (12, .iload_n 1, 1), (13, .if_icmp .gt 15, 3), (16, .iload_n 2, 1), (17, .aload_n 0, 1), (18, .getfield 15, 3), (21, .if_icmp .gt 7, 3), (24, .iconst 1, 1), (25, .goto 4, 3), (28, .iconst 0, 1), (29, .ireturn, 1)]
theorem kX2_rentsAllOf : ∀ q ∈ qX2_rentsAllOf, decode cX2_rentsAllOf q.1 = .ok q.2 := by decide +kernel
def f_X2_rentsAllOf (K : Nat → Nat × Nat) (μ : Mm) (a0 : Nat) (a1 : Int32) (a2 : Int32) : Option (Int32) :=
  if (μ.1 a0 0) = (-1) then (some 0) else (if a1 < (μ.1 a0 0) then (some 0) else (lt1 (α := Int32) (if (μ.1 a0 1) < a2 then 0 else 1) fun x3 => gd (x3 = 0 ∨ x3 = 1) <| some x3))
set_option maxRecDepth 100000 in
set_option maxHeartbeats 4000000 in
theorem t_X2_rentsAllOf {l : Launch} {Z : ZZ} {X : XX} (μ : Mm) (a0 : Nat) (a1 : Int32) (a2 : Int32) (r : Int32) (k0 : (zk Z a0).1 = 1) (h : f_X2_rentsAllOf (zk Z) μ a0 a1 a2 = some r) (C : Cx l Z false X cX2_rentsAllOf RX2 3 (some .boolean)) (E : Ex Z X 0 0 0 (some (.int r)) Z μ) : G Z X 3 0 0 0 [(0, .ref (za Z a0)), (1, .int a1), (2, .int a2)] [] μ := by
  unfold f_X2_rentsAllOf at h
  refine g_aload_n C (i := 0) 0 rfl rfl (dk kX2_rentsAllOf 0 rfl) ?_
  refine gI_1_0 C k0 (C.w wd_1_134) (dk kX2_rentsAllOf 1 rfl) ?_
  refine g_iconst C (v := (-1)) (by decide) (dk kX2_rentsAllOf 2 rfl) ?_
  refine g_icmp_eq C (tgt := 28) (dk kX2_rentsAllOf 3 rfl) (by decide) (fun c1 => ?_) (fun c1 => ?_)
  · replace h := ite_t h c1
    refine g_iconst C (v := 0) (by decide) (dk kX2_rentsAllOf 14 rfl) ?_
    have h9 := Option.some.inj h
    subst h9
    exact g_iret C E rfl rfl (Nat.le_refl 0) (Nat.le_refl 0) (dk kX2_rentsAllOf 15 rfl)
  · replace h := ite_f h c1
    refine g_aload_n C (i := 0) 0 rfl rfl (dk kX2_rentsAllOf 4 rfl) ?_
    refine gI_1_0 C k0 (C.w wd_1_134) (dk kX2_rentsAllOf 5 rfl) ?_
    refine g_iload_n C (i := 1) 1 rfl rfl (dk kX2_rentsAllOf 6 rfl) ?_
    refine g_icmp_gt C (tgt := 28) (dk kX2_rentsAllOf 7 rfl) (by decide) (fun c2 => ?_) (fun c2 => ?_)
    · replace h := ite_t h c2
      refine g_iconst C (v := 0) (by decide) (dk kX2_rentsAllOf 14 rfl) ?_
      have h9 := Option.some.inj h
      subst h9
      exact g_iret C E rfl rfl (Nat.le_refl 0) (Nat.le_refl 0) (dk kX2_rentsAllOf 15 rfl)
    · replace h := ite_f h c2
      refine g_iload_n C (i := 2) 2 rfl rfl (dk kX2_rentsAllOf 8 rfl) ?_
      refine g_aload_n C (i := 0) 0 rfl rfl (dk kX2_rentsAllOf 9 rfl) ?_
      refine gI_1_1 C k0 (C.w wd_1_136) (dk kX2_rentsAllOf 10 rfl) ?_
      obtain ⟨x3, ex3, h⟩ := lt_inv h
      have kj4 : G Z X 3 0 0 29 [(0, .ref (za Z a0)), (1, .int a1), (2, .int a2)] [.int x3] μ := by
        obtain ⟨c5, h⟩ := gd_inv h
        have h9 := Option.some.inj h
        subst h9
        exact g_iret C E rfl (br0 _ c5) (Nat.le_refl 0) (Nat.le_refl 0) (dk kX2_rentsAllOf 15 rfl)
      clear h
      refine g_icmp_gt C (tgt := 28) (dk kX2_rentsAllOf 11 rfl) (by decide) (fun c6 => ?_) (fun c6 => ?_)
      · refine g_iconst C (v := 0) (by decide) (dk kX2_rentsAllOf 14 rfl) ?_
        exact g_nmi (by rw [ex3, if_pos c6]) kj4
      · refine g_iconst C (v := 1) (by decide) (dk kX2_rentsAllOf 12 rfl) ?_
        refine g_goto C (tgt := 29) (dk kX2_rentsAllOf 13 rfl) (by decide) ?_
        exact g_nmi (by rw [ex3, if_neg c6]) kj4
theorem ct_X2_rentsAllOf {l : Launch} {Z : ZZ} {μ : Mm} {a0 : Nat} {a1 : Int32} {a2 : Int32} {r : Int32} (k0 : (zk Z a0).1 = 1) (h : f_X2_rentsAllOf (zk Z) μ a0 a1 a2 = some r) : CtM l Z false yX2_rentsAllOf cX2_rentsAllOf 3 (some .boolean) 0 0 0 [.ref (za Z a0), .int a1, .int a2] μ (some (.int r)) Z μ := ct_of rfl rfl (Nat.le_of_ble_eq_true rfl) (fun X C E => t_X2_rentsAllOf μ a0 a1 a2 r k0 h C E)

def qX2_rentsOneOf : List (Nat × Instr × Nat) := [(0, .aload_n 0, 1), (1, .getfield 9, 3), (4, .iconst (-1), 1), (5, .if_icmp .eq 23, 3), (8, .aload_n 0, 1), (9, .getfield 9, 3), (12, .iload_n 2, 1), (13, .if_icmp .gt 15, 3), (16, .iload_n 1, 1), (17, .aload_n 0, 1), (18, .getfield 15, 3), (21, .if_icmp .gt 7, 3), (24, .iconst 1, 1), (25, .goto 4, 3), (28, .iconst 0, 1), (29, .ireturn, 1)]
theorem kX2_rentsOneOf : ∀ q ∈ qX2_rentsOneOf, decode cX2_rentsOneOf q.1 = .ok q.2 := by decide +kernel
def f_X2_rentsOneOf (K : Nat → Nat × Nat) (μ : Mm) (a0 : Nat) (a1 : Int32) (a2 : Int32) : Option (Int32) :=
  if (μ.1 a0 0) = (-1) then (some 0) else (if a2 < (μ.1 a0 0) then (some 0) else (lt1 (α := Int32) (if (μ.1 a0 1) < a1 then 0 else 1) fun x3 => gd (x3 = 0 ∨ x3 = 1) <| some x3))
set_option maxRecDepth 100000 in
set_option maxHeartbeats 4000000 in
theorem t_X2_rentsOneOf {l : Launch} {Z : ZZ} {X : XX} (μ : Mm) (a0 : Nat) (a1 : Int32) (a2 : Int32) (r : Int32) (k0 : (zk Z a0).1 = 1) (h : f_X2_rentsOneOf (zk Z) μ a0 a1 a2 = some r) (C : Cx l Z false X cX2_rentsOneOf RX2 3 (some .boolean)) (E : Ex Z X 0 0 0 (some (.int r)) Z μ) : G Z X 3 0 0 0 [(0, .ref (za Z a0)), (1, .int a1), (2, .int a2)] [] μ := by
  unfold f_X2_rentsOneOf at h
  refine g_aload_n C (i := 0) 0 rfl rfl (dk kX2_rentsOneOf 0 rfl) ?_
  refine gI_1_0 C k0 (C.w wd_1_134) (dk kX2_rentsOneOf 1 rfl) ?_
  refine g_iconst C (v := (-1)) (by decide) (dk kX2_rentsOneOf 2 rfl) ?_
  refine g_icmp_eq C (tgt := 28) (dk kX2_rentsOneOf 3 rfl) (by decide) (fun c1 => ?_) (fun c1 => ?_)
  · replace h := ite_t h c1
    refine g_iconst C (v := 0) (by decide) (dk kX2_rentsOneOf 14 rfl) ?_
    have h9 := Option.some.inj h
    subst h9
    exact g_iret C E rfl rfl (Nat.le_refl 0) (Nat.le_refl 0) (dk kX2_rentsOneOf 15 rfl)
  · replace h := ite_f h c1
    refine g_aload_n C (i := 0) 0 rfl rfl (dk kX2_rentsOneOf 4 rfl) ?_
    refine gI_1_0 C k0 (C.w wd_1_134) (dk kX2_rentsOneOf 5 rfl) ?_
    refine g_iload_n C (i := 2) 2 rfl rfl (dk kX2_rentsOneOf 6 rfl) ?_
    refine g_icmp_gt C (tgt := 28) (dk kX2_rentsOneOf 7 rfl) (by decide) (fun c2 => ?_) (fun c2 => ?_)
    · replace h := ite_t h c2
      refine g_iconst C (v := 0) (by decide) (dk kX2_rentsOneOf 14 rfl) ?_
      have h9 := Option.some.inj h
      subst h9
      exact g_iret C E rfl rfl (Nat.le_refl 0) (Nat.le_refl 0) (dk kX2_rentsOneOf 15 rfl)
    · replace h := ite_f h c2
      refine g_iload_n C (i := 1) 1 rfl rfl (dk kX2_rentsOneOf 8 rfl) ?_
      refine g_aload_n C (i := 0) 0 rfl rfl (dk kX2_rentsOneOf 9 rfl) ?_
      refine gI_1_1 C k0 (C.w wd_1_136) (dk kX2_rentsOneOf 10 rfl) ?_
      obtain ⟨x3, ex3, h⟩ := lt_inv h
      have kj4 : G Z X 3 0 0 29 [(0, .ref (za Z a0)), (1, .int a1), (2, .int a2)] [.int x3] μ := by
        obtain ⟨c5, h⟩ := gd_inv h
        have h9 := Option.some.inj h
        subst h9
        exact g_iret C E rfl (br0 _ c5) (Nat.le_refl 0) (Nat.le_refl 0) (dk kX2_rentsOneOf 15 rfl)
      clear h
      refine g_icmp_gt C (tgt := 28) (dk kX2_rentsOneOf 11 rfl) (by decide) (fun c6 => ?_) (fun c6 => ?_)
      · refine g_iconst C (v := 0) (by decide) (dk kX2_rentsOneOf 14 rfl) ?_
        exact g_nmi (by rw [ex3, if_pos c6]) kj4
      · refine g_iconst C (v := 1) (by decide) (dk kX2_rentsOneOf 12 rfl) ?_
        refine g_goto C (tgt := 29) (dk kX2_rentsOneOf 13 rfl) (by decide) ?_
        exact g_nmi (by rw [ex3, if_neg c6]) kj4
theorem ct_X2_rentsOneOf {l : Launch} {Z : ZZ} {μ : Mm} {a0 : Nat} {a1 : Int32} {a2 : Int32} {r : Int32} (k0 : (zk Z a0).1 = 1) (h : f_X2_rentsOneOf (zk Z) μ a0 a1 a2 = some r) : CtM l Z false yX2_rentsOneOf cX2_rentsOneOf 3 (some .boolean) 0 0 0 [.ref (za Z a0), .int a1, .int a2] μ (some (.int r)) Z μ := ct_of rfl rfl (Nat.le_of_ble_eq_true rfl) (fun X C E => t_X2_rentsOneOf μ a0 a1 a2 r k0 h C E)

def qX2_takeOver : List (Nat × Instr × Nat) := [(0, .aload_n 0, 1), (1, .aload_n 1, 1), (2, .getfield 9, 3), (5, .putfield 9, 3), (8, .aload_n 0, 1), (9, .aload_n 1, 1), (10, .getfield 15, 3), (13, .putfield 15, 3), (16, .aload_n 0, 1), (17, .aload_n 1, 1), (18, .getfield 18, 3), (21, .putfield 18, 3), (24, .aload_n 0, 1), (25, .aload_n 1, 1), (26, .getfield 21, 3), (29, .putfield 21, 3), (32, .aload_n 0, 1), (33, .aload_n 1, 1), (34, .getfield 24, 3), (37, .putfield 24, 3), (40, .aload_n 0, 1), (41, .aload_n 1, 1), (42, .getfield 27, 3), (45, .putfield 27, 3), (48, .return_, 1)]
theorem kX2_takeOver : ∀ q ∈ qX2_takeOver, decode cX2_takeOver q.1 = .ok q.2 := by decide +kernel
def f_X2_takeOver (K : Nat → Nat × Nat) (μ : Mm) (a0 : Nat) (a1 : Nat) : Option (Mm) :=
  lt1 (sI μ a0 0 (μ.1 a1 0)) fun μ1 => lt1 (sI μ1 a0 1 (μ1.1 a1 1)) fun μ2 => lt1 (sI μ2 a0 2 (μ2.1 a1 2)) fun μ3 => lt1 (sI μ3 a0 3 (μ3.1 a1 3)) fun μ4 => lt1 (sI μ4 a0 4 (μ4.1 a1 4)) fun μ5 => lt1 (sI μ5 a0 5 (μ5.1 a1 5)) fun μ6 => some (μ6)
set_option maxRecDepth 100000 in
set_option maxHeartbeats 4000000 in
theorem t_X2_takeOver {l : Launch} {Z : ZZ} {X : XX} (μ : Mm) (a0 : Nat) (a1 : Nat) (μ' : Mm) (k0 : (zk Z a0).1 = 1) (k1 : (zk Z a1).1 = 1) (h : f_X2_takeOver (zk Z) μ a0 a1 = some μ') (C : Cx l Z false X cX2_takeOver RX2 2 none) (E : Ex Z X 0 0 0 none Z μ') : G Z X 2 0 0 0 [(0, .ref (za Z a0)), (1, .ref (za Z a1))] [] μ := by
  unfold f_X2_takeOver at h
  refine g_aload_n C (i := 0) 0 rfl rfl (dk kX2_takeOver 0 rfl) ?_
  refine g_aload_n C (i := 1) 1 rfl rfl (dk kX2_takeOver 1 rfl) ?_
  refine gI_1_0 C k1 (C.w wd_1_134) (dk kX2_takeOver 2 rfl) ?_
  obtain ⟨μ1, eμ1, h⟩ := lt_inv h
  refine pI_1_0 C k0 (C.w wd_1_134) eμ1 (dk kX2_takeOver 3 rfl) ?_
  refine g_aload_n C (i := 0) 0 rfl rfl (dk kX2_takeOver 4 rfl) ?_
  refine g_aload_n C (i := 1) 1 rfl rfl (dk kX2_takeOver 5 rfl) ?_
  refine gI_1_1 C k1 (C.w wd_1_136) (dk kX2_takeOver 6 rfl) ?_
  obtain ⟨μ2, eμ2, h⟩ := lt_inv h
  refine pI_1_1 C k0 (C.w wd_1_136) eμ2 (dk kX2_takeOver 7 rfl) ?_
  refine g_aload_n C (i := 0) 0 rfl rfl (dk kX2_takeOver 8 rfl) ?_
  refine g_aload_n C (i := 1) 1 rfl rfl (dk kX2_takeOver 9 rfl) ?_
  refine gI_1_2 C k1 (C.w wd_1_138) (dk kX2_takeOver 10 rfl) ?_
  obtain ⟨μ3, eμ3, h⟩ := lt_inv h
  refine pI_1_2 C k0 (C.w wd_1_138) eμ3 (dk kX2_takeOver 11 rfl) ?_
  refine g_aload_n C (i := 0) 0 rfl rfl (dk kX2_takeOver 12 rfl) ?_
  refine g_aload_n C (i := 1) 1 rfl rfl (dk kX2_takeOver 13 rfl) ?_
  refine gI_1_3 C k1 (C.w wd_1_140) (dk kX2_takeOver 14 rfl) ?_
  obtain ⟨μ4, eμ4, h⟩ := lt_inv h
  refine pI_1_3 C k0 (C.w wd_1_140) eμ4 (dk kX2_takeOver 15 rfl) ?_
  refine g_aload_n C (i := 0) 0 rfl rfl (dk kX2_takeOver 16 rfl) ?_
  refine g_aload_n C (i := 1) 1 rfl rfl (dk kX2_takeOver 17 rfl) ?_
  refine gI_1_4 C k1 (C.w wd_1_142) (dk kX2_takeOver 18 rfl) ?_
  obtain ⟨μ5, eμ5, h⟩ := lt_inv h
  refine pI_1_4 C k0 (C.w wd_1_142) eμ5 (dk kX2_takeOver 19 rfl) ?_
  refine g_aload_n C (i := 0) 0 rfl rfl (dk kX2_takeOver 20 rfl) ?_
  refine g_aload_n C (i := 1) 1 rfl rfl (dk kX2_takeOver 21 rfl) ?_
  refine gI_1_5 C k1 (C.w wd_1_144) (dk kX2_takeOver 22 rfl) ?_
  obtain ⟨μ6, eμ6, h⟩ := lt_inv h
  refine pI_1_5 C k0 (C.w wd_1_144) eμ6 (dk kX2_takeOver 23 rfl) ?_
  have h9 := Option.some.inj h
  subst h9
  exact g_vret C E (Nat.le_refl 0) (Nat.le_refl 0) (dk kX2_takeOver 24 rfl)
theorem ct_X2_takeOver {l : Launch} {Z : ZZ} {μ : Mm} {a0 : Nat} {a1 : Nat} {μ' : Mm} (k0 : (zk Z a0).1 = 1) (k1 : (zk Z a1).1 = 1) (h : f_X2_takeOver (zk Z) μ a0 a1 = some μ') : CtM l Z false yX2_takeOver cX2_takeOver 2 none 0 0 0 [.ref (za Z a0), .ref (za Z a1)] μ none Z μ' := ct_of rfl rfl (Nat.le_of_ble_eq_true rfl) (fun X C E => t_X2_takeOver μ a0 a1 μ' k0 k1 h C E)

def qX2_value : List (Nat × Instr × Nat) := [(0, .iload_n 1, 1), (1, .tableswitch 60 0 4 #[35, 40, 45, 50, 55], 35), (36, .aload_n 0, 1), (37, .getfield 9, 3), (40, .ireturn, 1), (41, .aload_n 0, 1), (42, .getfield 15, 3), (45, .ireturn, 1), (46, .aload_n 0, 1), (47, .getfield 18, 3), (50, .ireturn, 1), (51, .aload_n 0, 1), (52, .getfield 21, 3), (55, .ireturn, 1), (56, .aload_n 0, 1), (57, .getfield 24, 3), (60, .ireturn, 1), (61, .aload_n 0, 1), (62, .getfield 27, 3), (65, .ireturn, 1)]
theorem kX2_value : ∀ q ∈ qX2_value, decode cX2_value q.1 = .ok q.2 := by decide +kernel
def f_X2_value (K : Nat → Nat × Nat) (μ : Mm) (a0 : Nat) (a1 : Int32) : Option (Int32) :=
  if a1 = 0 then (some (μ.1 a0 0)) else (if a1 = 1 then (some (μ.1 a0 1)) else (if a1 = 2 then (some (μ.1 a0 2)) else (if a1 = 3 then (some (μ.1 a0 3)) else (if a1 = 4 then (some (μ.1 a0 4)) else (some (μ.1 a0 5))))))
set_option maxRecDepth 100000 in
set_option maxHeartbeats 4000000 in
theorem t_X2_value {l : Launch} {Z : ZZ} {X : XX} (μ : Mm) (a0 : Nat) (a1 : Int32) (r : Int32) (k0 : (zk Z a0).1 = 1) (h : f_X2_value (zk Z) μ a0 a1 = some r) (C : Cx l Z false X cX2_value RX2 2 (some .int)) (E : Ex Z X 0 0 0 (some (.int r)) Z μ) : G Z X 2 0 0 0 [(0, .ref (za Z a0)), (1, .int a1)] [] μ := by
  unfold f_X2_value at h
  refine g_iload_n C (i := 1) 1 rfl rfl (dk kX2_value 0 rfl) ?_
  by_cases c1 : a1 = 0
  · replace h := ite_t h c1
    refine g_tin C (tgt := 36) (dk kX2_value 1 rfl) (by rw [c1]; decide) (by rw [c1]; decide) (by rw [c1]; rfl) (by decide) ?_
    refine g_aload_n C (i := 0) 0 rfl rfl (dk kX2_value 2 rfl) ?_
    refine gI_1_0 C k0 (C.w wd_1_134) (dk kX2_value 3 rfl) ?_
    have h9 := Option.some.inj h
    subst h9
    exact g_iret C E rfl rfl (Nat.le_refl 0) (Nat.le_refl 0) (dk kX2_value 4 rfl)
  · replace h := ite_f h c1
    by_cases c2 : a1 = 1
    · replace h := ite_t h c2
      refine g_tin C (tgt := 41) (dk kX2_value 1 rfl) (by rw [c2]; decide) (by rw [c2]; decide) (by rw [c2]; rfl) (by decide) ?_
      refine g_aload_n C (i := 0) 0 rfl rfl (dk kX2_value 5 rfl) ?_
      refine gI_1_1 C k0 (C.w wd_1_136) (dk kX2_value 6 rfl) ?_
      have h9 := Option.some.inj h
      subst h9
      exact g_iret C E rfl rfl (Nat.le_refl 0) (Nat.le_refl 0) (dk kX2_value 7 rfl)
    · replace h := ite_f h c2
      by_cases c3 : a1 = 2
      · replace h := ite_t h c3
        refine g_tin C (tgt := 46) (dk kX2_value 1 rfl) (by rw [c3]; decide) (by rw [c3]; decide) (by rw [c3]; rfl) (by decide) ?_
        refine g_aload_n C (i := 0) 0 rfl rfl (dk kX2_value 8 rfl) ?_
        refine gI_1_2 C k0 (C.w wd_1_138) (dk kX2_value 9 rfl) ?_
        have h9 := Option.some.inj h
        subst h9
        exact g_iret C E rfl rfl (Nat.le_refl 0) (Nat.le_refl 0) (dk kX2_value 10 rfl)
      · replace h := ite_f h c3
        by_cases c4 : a1 = 3
        · replace h := ite_t h c4
          refine g_tin C (tgt := 51) (dk kX2_value 1 rfl) (by rw [c4]; decide) (by rw [c4]; decide) (by rw [c4]; rfl) (by decide) ?_
          refine g_aload_n C (i := 0) 0 rfl rfl (dk kX2_value 11 rfl) ?_
          refine gI_1_3 C k0 (C.w wd_1_140) (dk kX2_value 12 rfl) ?_
          have h9 := Option.some.inj h
          subst h9
          exact g_iret C E rfl rfl (Nat.le_refl 0) (Nat.le_refl 0) (dk kX2_value 13 rfl)
        · replace h := ite_f h c4
          by_cases c5 : a1 = 4
          · replace h := ite_t h c5
            refine g_tin C (tgt := 56) (dk kX2_value 1 rfl) (by rw [c5]; decide) (by rw [c5]; decide) (by rw [c5]; rfl) (by decide) ?_
            refine g_aload_n C (i := 0) 0 rfl rfl (dk kX2_value 14 rfl) ?_
            refine gI_1_4 C k0 (C.w wd_1_142) (dk kX2_value 15 rfl) ?_
            have h9 := Option.some.inj h
            subst h9
            exact g_iret C E rfl rfl (Nat.le_refl 0) (Nat.le_refl 0) (dk kX2_value 16 rfl)
          · replace h := ite_f h c5
            refine g_tout C (tgt := 61) (dk kX2_value 1 rfl) (by have q0 := lv_neT c1 (a := 0) (by decide); have q1 := lv_neT c2 (a := 1) (by decide); have q2 := lv_neT c3 (a := 2) (by decide); have q3 := lv_neT c4 (a := 3) (by decide); have q4 := lv_neT c5 (a := 4) (by decide); omega) (by decide) ?_
            refine g_aload_n C (i := 0) 0 rfl rfl (dk kX2_value 17 rfl) ?_
            refine gI_1_5 C k0 (C.w wd_1_144) (dk kX2_value 18 rfl) ?_
            have h9 := Option.some.inj h
            subst h9
            exact g_iret C E rfl rfl (Nat.le_refl 0) (Nat.le_refl 0) (dk kX2_value 19 rfl)
theorem ct_X2_value {l : Launch} {Z : ZZ} {μ : Mm} {a0 : Nat} {a1 : Int32} {r : Int32} (k0 : (zk Z a0).1 = 1) (h : f_X2_value (zk Z) μ a0 a1 = some r) : CtM l Z false yX2_value cX2_value 2 (some .int) 0 0 0 [.ref (za Z a0), .int a1] μ (some (.int r)) Z μ := ct_of rfl rfl (Nat.le_of_ble_eq_true rfl) (fun X C E => t_X2_value μ a0 a1 r k0 h C E)

def qX3_burn : List (Nat × Instr × Nat) := [(0, .aload_n 0, 1), (1, .getfield 15, 3), (4, .iload_n 1, 1), (5, .iaload, 1), (6, .iload_n 2, 1), (7, .if_icmp .lt 4, 3), (10, .return_, 1), (11, .iload_n 2, 1), (12, .aload_n 0, 1), (13, .getfield 15, 3), (16, .iload_n 1, 1), (17, .iaload, 1), (18, .isub, 1), (19, .bipush 9, 2), (21, .iadd, 1), (22, .bipush 10, 2), (24, .idiv, 1), (25, .istore_n 3, 1), (26, .aload_n 0, 1), (27, .getfield 22, 3), (30, .iload_n 1, 1), (31, .dup2, 1), (32, .iaload, 1), (33, .iload_n 3, 1), (34, .iadd, 1), (35, .iastore, 1), (36, .aload_n 0, 1), (37, .dup, 1), (38, .getfield 25, 3), (41, .iload_n 3, 1), (42, .iadd, 1), (43, .putfield 25, 3), (46, .aload_n 0, 1), (47, .getfield 19, 3), (50, .iload_n 1, 1), (51, .aload_n 0, 1), (52, .getfield 19, 3), (55, .iload_n 1, 1), (56, .iaload, 1), (57, .iload_n 3, 1), (58, .iadd, 1), (59, .sipush 9999, 3), (62, .if_icmp .le 9, 3), (65, .sipush 9999, 3), (68, .goto 11, 3), (71, .aload_n 0, 1), (72, .getfield 19, 3), (75, .iload_n 1, 1), (76, .iaload, 1), (77, .iload_n 3, 1), (78, .iadd, 1), (79, .iastore, 1), (80, .aload_n 0, 1), (81, .getfield 15, 3), (84, .iload_n 1, 1), (85, .iload_n 2, 1), (86, .iastore, 1), (87, .return_, 1)]
theorem kX3_burn : ∀ q ∈ qX3_burn, decode cX3_burn q.1 = .ok q.2 := by decide +kernel
def f_X3_burn (K : Nat → Nat × Nat) (μ : Mm) (a0 : Nat) (a1 : Int32) (a2 : Int32) : Option (Mm) :=
  bd (rf K μ a0 2 8) fun b1 => gd (inb a1 (K b1).2) <| if (μ.1 b1 (ix a1)) < a2 then (bd (rf K μ a0 2 8) fun b4 => gd (inb a1 (K b4).2) <| lt1 (α := Int32) (((a2 - (μ.1 b4 (ix a1))) + 9) / 10) fun x6 => bd (rf K μ a0 4 8) fun b7 => gd (inb a1 (K b7).2) <| gd (inb a1 (K b7).2) <| lt1 (sI μ b7 (ix a1) ((μ.1 b7 (ix a1)) + x6)) fun μ10 => lt1 (sI μ10 a0 1 ((μ10.1 a0 1) + x6)) fun μ11 => bd (rf K μ11 a0 3 8) fun b12 => bd (rf K μ11 a0 3 8) fun b13 => gd (inb a1 (K b13).2) <| if ((μ11.1 b13 (ix a1)) + x6) ≤ 9999 then (bd (rf K μ11 a0 3 8) fun b16 => gd (inb a1 (K b16).2) <| gd (inb a1 (K b12).2) <| lt1 (sI μ11 b12 (ix a1) ((μ11.1 b16 (ix a1)) + x6)) fun μ19 => bd (rf K μ19 a0 2 8) fun b20 => gd (inb a1 (K b20).2) <| lt1 (sI μ19 b20 (ix a1) a2) fun μ22 => some (μ22)) else (gd (inb a1 (K b12).2) <| lt1 (sI μ11 b12 (ix a1) 9999) fun μ24 => bd (rf K μ24 a0 2 8) fun b25 => gd (inb a1 (K b25).2) <| lt1 (sI μ24 b25 (ix a1) a2) fun μ27 => some (μ27))) else (some (μ))
set_option maxRecDepth 100000 in
set_option maxHeartbeats 4000000 in
theorem t_X3_burn {l : Launch} {Z : ZZ} {X : XX} (μ : Mm) (a0 : Nat) (a1 : Int32) (a2 : Int32) (μ' : Mm) (k0 : (zk Z a0).1 = 2) (h : f_X3_burn (zk Z) μ a0 a1 a2 = some μ') (C : Cx l Z false X cX3_burn RX3 4 none) (E : Ex Z X 0 0 0 none Z μ') : G Z X 4 0 0 0 [(0, .ref (za Z a0)), (1, .int a1), (2, .int a2)] [] μ := by
  unfold f_X3_burn at h
  refine g_aload_n C (i := 0) 0 rfl rfl (dk kX3_burn 0 rfl) ?_
  obtain ⟨b1, eb1, h⟩ := bd_inv h
  obtain ⟨rb1, kb1⟩ := rf_inv eb1
  refine gR_2_2 C k0 (C.w wd_1_66) rb1 (dk kX3_burn 1 rfl) ?_
  refine g_iload_n C (i := 1) 1 rfl rfl (dk kX3_burn 2 rfl) ?_
  obtain ⟨c2, h⟩ := gd_inv h
  refine g_iald C kb1 c2 (dk kX3_burn 3 rfl) ?_
  refine g_iload_n C (i := 2) 2 rfl rfl (dk kX3_burn 4 rfl) ?_
  refine g_icmp_lt C (tgt := 11) (dk kX3_burn 5 rfl) (by decide) (fun c3 => ?_) (fun c3 => ?_)
  · replace h := ite_t h c3
    refine g_iload_n C (i := 2) 2 rfl rfl (dk kX3_burn 7 rfl) ?_
    refine g_aload_n C (i := 0) 0 rfl rfl (dk kX3_burn 8 rfl) ?_
    obtain ⟨b4, eb4, h⟩ := bd_inv h
    obtain ⟨rb4, kb4⟩ := rf_inv eb4
    refine gR_2_2 C k0 (C.w wd_1_66) rb4 (dk kX3_burn 9 rfl) ?_
    refine g_iload_n C (i := 1) 1 rfl rfl (dk kX3_burn 10 rfl) ?_
    obtain ⟨c5, h⟩ := gd_inv h
    refine g_iald C kb4 c5 (dk kX3_burn 11 rfl) ?_
    refine g_isub C (dk kX3_burn 12 rfl) ?_
    refine g_bipush C (v := 9) (by decide) (dk kX3_burn 13 rfl) ?_
    refine g_iadd C (dk kX3_burn 14 rfl) ?_
    refine g_bipush C (v := 10) (by decide) (dk kX3_burn 15 rfl) ?_
    refine g_idiv C (by decide) (dk kX3_burn 16 rfl) ?_
    obtain ⟨x6, ex6, h⟩ := lt_inv h
    refine g_nmi ex6 ?_
    refine g_istore_n C (i := 3) (lv' := [(3, .int x6), (0, .ref (za Z a0)), (1, .int a1), (2, .int a2)]) (dk kX3_burn 17 rfl) rfl (by decide) rfl ?_
    refine g_aload_n C (i := 0) 1 rfl rfl (dk kX3_burn 18 rfl) ?_
    obtain ⟨b7, eb7, h⟩ := bd_inv h
    obtain ⟨rb7, kb7⟩ := rf_inv eb7
    refine gR_2_4 C k0 (C.w wd_1_70) rb7 (dk kX3_burn 19 rfl) ?_
    refine g_iload_n C (i := 1) 2 rfl rfl (dk kX3_burn 20 rfl) ?_
    refine g_dup2 C rfl rfl (dk kX3_burn 21 rfl) ?_
    obtain ⟨c8, h⟩ := gd_inv h
    refine g_iald C kb7 c8 (dk kX3_burn 22 rfl) ?_
    refine g_iload_n C (i := 3) 0 rfl rfl (dk kX3_burn 23 rfl) ?_
    refine g_iadd C (dk kX3_burn 24 rfl) ?_
    obtain ⟨c9, h⟩ := gd_inv h
    obtain ⟨μ10, eμ10, h⟩ := lt_inv h
    refine g_iast C kb7 c9 eμ10 (dk kX3_burn 25 rfl) ?_
    refine g_aload_n C (i := 0) 1 rfl rfl (dk kX3_burn 26 rfl) ?_
    refine g_dup C rfl (dk kX3_burn 27 rfl) ?_
    refine gI_2_1 C k0 (C.w wd_1_64) (dk kX3_burn 28 rfl) ?_
    refine g_iload_n C (i := 3) 0 rfl rfl (dk kX3_burn 29 rfl) ?_
    refine g_iadd C (dk kX3_burn 30 rfl) ?_
    obtain ⟨μ11, eμ11, h⟩ := lt_inv h
    refine pI_2_1 C k0 (C.w wd_1_64) eμ11 (dk kX3_burn 31 rfl) ?_
    refine g_aload_n C (i := 0) 1 rfl rfl (dk kX3_burn 32 rfl) ?_
    obtain ⟨b12, eb12, h⟩ := bd_inv h
    obtain ⟨rb12, kb12⟩ := rf_inv eb12
    refine gR_2_3 C k0 (C.w wd_1_68) rb12 (dk kX3_burn 33 rfl) ?_
    refine g_iload_n C (i := 1) 2 rfl rfl (dk kX3_burn 34 rfl) ?_
    refine g_aload_n C (i := 0) 1 rfl rfl (dk kX3_burn 35 rfl) ?_
    obtain ⟨b13, eb13, h⟩ := bd_inv h
    obtain ⟨rb13, kb13⟩ := rf_inv eb13
    refine gR_2_3 C k0 (C.w wd_1_68) rb13 (dk kX3_burn 36 rfl) ?_
    refine g_iload_n C (i := 1) 2 rfl rfl (dk kX3_burn 37 rfl) ?_
    obtain ⟨c14, h⟩ := gd_inv h
    refine g_iald C kb13 c14 (dk kX3_burn 38 rfl) ?_
    refine g_iload_n C (i := 3) 0 rfl rfl (dk kX3_burn 39 rfl) ?_
    refine g_iadd C (dk kX3_burn 40 rfl) ?_
    refine g_sipush C (v := 9999) (by decide) (dk kX3_burn 41 rfl) ?_
    refine g_icmp_le C (tgt := 71) (dk kX3_burn 42 rfl) (by decide) (fun c15 => ?_) (fun c15 => ?_)
    · replace h := ite_t h c15
      refine g_aload_n C (i := 0) 1 rfl rfl (dk kX3_burn 45 rfl) ?_
      obtain ⟨b16, eb16, h⟩ := bd_inv h
      obtain ⟨rb16, kb16⟩ := rf_inv eb16
      refine gR_2_3 C k0 (C.w wd_1_68) rb16 (dk kX3_burn 46 rfl) ?_
      refine g_iload_n C (i := 1) 2 rfl rfl (dk kX3_burn 47 rfl) ?_
      obtain ⟨c17, h⟩ := gd_inv h
      refine g_iald C kb16 c17 (dk kX3_burn 48 rfl) ?_
      refine g_iload_n C (i := 3) 0 rfl rfl (dk kX3_burn 49 rfl) ?_
      refine g_iadd C (dk kX3_burn 50 rfl) ?_
      obtain ⟨c18, h⟩ := gd_inv h
      obtain ⟨μ19, eμ19, h⟩ := lt_inv h
      refine g_iast C kb12 c18 eμ19 (dk kX3_burn 51 rfl) ?_
      refine g_aload_n C (i := 0) 1 rfl rfl (dk kX3_burn 52 rfl) ?_
      obtain ⟨b20, eb20, h⟩ := bd_inv h
      obtain ⟨rb20, kb20⟩ := rf_inv eb20
      refine gR_2_2 C k0 (C.w wd_1_66) rb20 (dk kX3_burn 53 rfl) ?_
      refine g_iload_n C (i := 1) 2 rfl rfl (dk kX3_burn 54 rfl) ?_
      refine g_iload_n C (i := 2) 3 rfl rfl (dk kX3_burn 55 rfl) ?_
      obtain ⟨c21, h⟩ := gd_inv h
      obtain ⟨μ22, eμ22, h⟩ := lt_inv h
      refine g_iast C kb20 c21 eμ22 (dk kX3_burn 56 rfl) ?_
      have h9 := Option.some.inj h
      subst h9
      exact g_vret C E (Nat.le_refl 0) (Nat.le_refl 0) (dk kX3_burn 57 rfl)
    · replace h := ite_f h c15
      refine g_sipush C (v := 9999) (by decide) (dk kX3_burn 43 rfl) ?_
      refine g_goto C (tgt := 79) (dk kX3_burn 44 rfl) (by decide) ?_
      obtain ⟨c23, h⟩ := gd_inv h
      obtain ⟨μ24, eμ24, h⟩ := lt_inv h
      refine g_iast C kb12 c23 eμ24 (dk kX3_burn 51 rfl) ?_
      refine g_aload_n C (i := 0) 1 rfl rfl (dk kX3_burn 52 rfl) ?_
      obtain ⟨b25, eb25, h⟩ := bd_inv h
      obtain ⟨rb25, kb25⟩ := rf_inv eb25
      refine gR_2_2 C k0 (C.w wd_1_66) rb25 (dk kX3_burn 53 rfl) ?_
      refine g_iload_n C (i := 1) 2 rfl rfl (dk kX3_burn 54 rfl) ?_
      refine g_iload_n C (i := 2) 3 rfl rfl (dk kX3_burn 55 rfl) ?_
      obtain ⟨c26, h⟩ := gd_inv h
      obtain ⟨μ27, eμ27, h⟩ := lt_inv h
      refine g_iast C kb25 c26 eμ27 (dk kX3_burn 56 rfl) ?_
      have h9 := Option.some.inj h
      subst h9
      exact g_vret C E (Nat.le_refl 0) (Nat.le_refl 0) (dk kX3_burn 57 rfl)
  · replace h := ite_f h c3
    have h9 := Option.some.inj h
    subst h9
    exact g_vret C E (Nat.le_refl 0) (Nat.le_refl 0) (dk kX3_burn 6 rfl)
theorem ct_X3_burn {l : Launch} {Z : ZZ} {μ : Mm} {a0 : Nat} {a1 : Int32} {a2 : Int32} {μ' : Mm} (k0 : (zk Z a0).1 = 2) (h : f_X3_burn (zk Z) μ a0 a1 a2 = some μ') : CtM l Z false yX3_burn cX3_burn 4 none 0 0 0 [.ref (za Z a0), .int a1, .int a2] μ none Z μ' := ct_of rfl rfl (Nat.le_of_ble_eq_true rfl) (fun X C E => t_X3_burn μ a0 a1 a2 μ' k0 h C E)

def qX3_fadeOf : List (Nat × Instr × Nat) := [(0, .aload_n 0, 1), (1, .getfield 19, 3), (4, .iload_n 1, 1), (5, .iaload, 1), (6, .aload_n 2, 1), (7, .iconst 2, 1), (8, .iaload, 1), (9, .isub, 1), (10, .istore_n 3, 1), (11, .aload_n 2, 1), (12, .iconst 3, 1), (13, .iaload, 1), (14, .istore 4, 2), (16, .iload_n 3, 1), (17, .iconst 1, 1), (18, .if_icmp .lt 9, 3), (21, .iload 4, 2), (23, .iconst 1, 1), (24, .if_icmp .ge 7, 3), (27, .iconst 0, 1), (28, .goto 7, 3), (31, .iload_n 3, 1), (32, .iload 4, 2), (34, .idiv, 1), (35, .ireturn, 1)]
theorem kX3_fadeOf : ∀ q ∈ qX3_fadeOf, decode cX3_fadeOf q.1 = .ok q.2 := by decide +kernel
def f_X3_fadeOf (K : Nat → Nat × Nat) (μ : Mm) (a0 : Nat) (a1 : Int32) (a2 : Nat) : Option (Int32) :=
  bd (rf K μ a0 3 8) fun b1 => gd (inb a1 (K b1).2) <| gd (inb 2 (K a2).2) <| lt1 (α := Int32) ((μ.1 b1 (ix a1)) - (μ.1 a2 (ix 2))) fun x4 => gd (inb 3 (K a2).2) <| lt1 (α := Int32) (μ.1 a2 (ix 3)) fun x6 => if x4 < 1 then (some 0) else (if 1 ≤ x6 then (gd (¬ x6 = 0) <| some (x4 / x6)) else (some 0))
set_option maxRecDepth 100000 in
set_option maxHeartbeats 4000000 in
theorem t_X3_fadeOf {l : Launch} {Z : ZZ} {X : XX} (μ : Mm) (a0 : Nat) (a1 : Int32) (a2 : Nat) (r : Int32) (k0 : (zk Z a0).1 = 2) (k2 : (zk Z a2).1 = 8) (h : f_X3_fadeOf (zk Z) μ a0 a1 a2 = some r) (C : Cx l Z false X cX3_fadeOf RX3 5 (some .int)) (E : Ex Z X 0 0 0 (some (.int r)) Z μ) : G Z X 5 0 0 0 [(0, .ref (za Z a0)), (1, .int a1), (2, .ref (za Z a2))] [] μ := by
  unfold f_X3_fadeOf at h
  refine g_aload_n C (i := 0) 0 rfl rfl (dk kX3_fadeOf 0 rfl) ?_
  obtain ⟨b1, eb1, h⟩ := bd_inv h
  obtain ⟨rb1, kb1⟩ := rf_inv eb1
  refine gR_2_3 C k0 (C.w wd_1_68) rb1 (dk kX3_fadeOf 1 rfl) ?_
  refine g_iload_n C (i := 1) 1 rfl rfl (dk kX3_fadeOf 2 rfl) ?_
  obtain ⟨c2, h⟩ := gd_inv h
  refine g_iald C kb1 c2 (dk kX3_fadeOf 3 rfl) ?_
  refine g_aload_n C (i := 2) 2 rfl rfl (dk kX3_fadeOf 4 rfl) ?_
  refine g_iconst C (v := 2) (by decide) (dk kX3_fadeOf 5 rfl) ?_
  obtain ⟨c3, h⟩ := gd_inv h
  refine g_iald C k2 c3 (dk kX3_fadeOf 6 rfl) ?_
  refine g_isub C (dk kX3_fadeOf 7 rfl) ?_
  obtain ⟨x4, ex4, h⟩ := lt_inv h
  refine g_nmi ex4 ?_
  refine g_istore_n C (i := 3) (lv' := [(3, .int x4), (0, .ref (za Z a0)), (1, .int a1), (2, .ref (za Z a2))]) (dk kX3_fadeOf 8 rfl) rfl (by decide) rfl ?_
  refine g_aload_n C (i := 2) 3 rfl rfl (dk kX3_fadeOf 9 rfl) ?_
  refine g_iconst C (v := 3) (by decide) (dk kX3_fadeOf 10 rfl) ?_
  obtain ⟨c5, h⟩ := gd_inv h
  refine g_iald C k2 c5 (dk kX3_fadeOf 11 rfl) ?_
  obtain ⟨x6, ex6, h⟩ := lt_inv h
  refine g_nmi ex6 ?_
  refine g_istore C (i := 4) (lv' := [(4, .int x6), (3, .int x4), (0, .ref (za Z a0)), (1, .int a1), (2, .ref (za Z a2))]) (dk kX3_fadeOf 12 rfl) (by decide) rfl ?_
  refine g_iload_n C (i := 3) 1 rfl rfl (dk kX3_fadeOf 13 rfl) ?_
  refine g_iconst C (v := 1) (by decide) (dk kX3_fadeOf 14 rfl) ?_
  refine g_icmp_lt C (tgt := 27) (dk kX3_fadeOf 15 rfl) (by decide) (fun c7 => ?_) (fun c7 => ?_)
  · replace h := ite_t h c7
    refine g_iconst C (v := 0) (by decide) (dk kX3_fadeOf 19 rfl) ?_
    refine g_goto C (tgt := 35) (dk kX3_fadeOf 20 rfl) (by decide) ?_
    have h9 := Option.some.inj h
    subst h9
    exact g_iret C E rfl rfl (Nat.le_refl 0) (Nat.le_refl 0) (dk kX3_fadeOf 24 rfl)
  · replace h := ite_f h c7
    refine g_iload C (i := 4) 0 rfl (dk kX3_fadeOf 16 rfl) ?_
    refine g_iconst C (v := 1) (by decide) (dk kX3_fadeOf 17 rfl) ?_
    refine g_icmp_ge C (tgt := 31) (dk kX3_fadeOf 18 rfl) (by decide) (fun c8 => ?_) (fun c8 => ?_)
    · replace h := ite_t h c8
      refine g_iload_n C (i := 3) 1 rfl rfl (dk kX3_fadeOf 21 rfl) ?_
      refine g_iload C (i := 4) 0 rfl (dk kX3_fadeOf 22 rfl) ?_
      obtain ⟨c9, h⟩ := gd_inv h
      refine g_idiv C c9 (dk kX3_fadeOf 23 rfl) ?_
      have h9 := Option.some.inj h
      subst h9
      exact g_iret C E rfl rfl (Nat.le_refl 0) (Nat.le_refl 0) (dk kX3_fadeOf 24 rfl)
    · replace h := ite_f h c8
      refine g_iconst C (v := 0) (by decide) (dk kX3_fadeOf 19 rfl) ?_
      refine g_goto C (tgt := 35) (dk kX3_fadeOf 20 rfl) (by decide) ?_
      have h9 := Option.some.inj h
      subst h9
      exact g_iret C E rfl rfl (Nat.le_refl 0) (Nat.le_refl 0) (dk kX3_fadeOf 24 rfl)
theorem ct_X3_fadeOf {l : Launch} {Z : ZZ} {μ : Mm} {a0 : Nat} {a1 : Int32} {a2 : Nat} {r : Int32} (k0 : (zk Z a0).1 = 2) (k2 : (zk Z a2).1 = 8) (h : f_X3_fadeOf (zk Z) μ a0 a1 a2 = some r) : CtM l Z false yX3_fadeOf cX3_fadeOf 5 (some .int) 0 0 0 [.ref (za Z a0), .int a1, .ref (za Z a2)] μ (some (.int r)) Z μ := ct_of rfl rfl (Nat.le_of_ble_eq_true rfl) (fun X C E => t_X3_fadeOf μ a0 a1 a2 r k0 k2 h C E)

def qX3_heatSum : List (Nat × Instr × Nat) := [(0, .iconst 0, 1), (1, .istore_n 1, 1), (2, .iconst 0, 1), (3, .istore_n 2, 1), (4, .iload_n 2, 1), (5, .aload_n 0, 1), (6, .getfield 9, 3), (9, .if_icmp .ge 18, 3), (12, .iload_n 1, 1), (13, .aload_n 0, 1), (14, .getfield 15, 3), (17, .iload_n 2, 1), (18, .iaload, 1), (19, .iadd, 1), (20, .istore_n 1, 1), (21, .iinc 2 1, 3), (24, .goto (-20), 3), (27, .iload_n 1, 1), (28, .ireturn, 1)]
theorem kX3_heatSum : ∀ q ∈ qX3_heatSum, decode cX3_heatSum q.1 = .ok q.2 := by decide +kernel
def f_X3_heatSum_l4 (K : Nat → Nat × Nat) (μ : Mm) (v0 : Nat) : Nat → Int32 → Int32 → Option (Int32)
  | 0, _, _ => none
  | n + 1, v1, v2 => if (μ.1 v0 0) ≤ v2 then (some v1) else (bd (rf K μ v0 2 8) fun b2 => gd (inb v2 (K b2).2) <| lt1 (α := Int32) (v1 + (μ.1 b2 (ix v2))) fun x4 => lt1 (α := Int32) (v2 + 1) fun x5 => f_X3_heatSum_l4 K μ v0 n x4 x5)
def f_X3_heatSum (K : Nat → Nat × Nat) (μ : Mm) (a0 : Nat) : Option (Int32) :=
  bd (f_X3_heatSum_l4 K μ a0 FU 0 0) fun q6 => lt1 q6 fun x7 => some x7
set_option maxRecDepth 100000 in
set_option maxHeartbeats 4000000 in
theorem gl_X3_heatSum_4 {l : Launch} {Z : ZZ} {X : XX} (v0 : Nat) (k0 : (zk Z v0).1 = 2) (μ : Mm) (C : Cx l Z false X cX3_heatSum RX3 3 (some .int)) (E : xR X = rmm 0 0 0) : ∀ (n : Nat) (v1 : Int32) (v2 : Int32) (y : Int32), f_X3_heatSum_l4 (zk Z) μ v0 n v1 v2 = some y → G Z X 3 0 0 27 [(1, .int y)] [] (μ) → G Z X 3 0 0 4 [(0, .ref (za Z v0)), (1, .int v1), (2, .int v2)] [] μ := by
  intro n
  induction n with
  | zero => intro v1 v2 y h he; unfold f_X3_heatSum_l4 at h; cases h
  | succ n ih =>
    intro v1 v2 y h he
    unfold f_X3_heatSum_l4 at h
    refine g_iload_n C (i := 2) 2 rfl rfl (dk kX3_heatSum 4 rfl) ?_
    refine g_aload_n C (i := 0) 0 rfl rfl (dk kX3_heatSum 5 rfl) ?_
    refine gI_2_0 C k0 (C.w wd_1_62) (dk kX3_heatSum 6 rfl) ?_
    refine g_icmp_ge C (tgt := 27) (dk kX3_heatSum 7 rfl) (by decide) (fun c1 => ?_) (fun c1 => ?_)
    · replace h := ite_t h c1
      cases h
      exact g_sub [1] rfl he
    · replace h := ite_f h c1
      refine g_iload_n C (i := 1) 1 rfl rfl (dk kX3_heatSum 8 rfl) ?_
      refine g_aload_n C (i := 0) 0 rfl rfl (dk kX3_heatSum 9 rfl) ?_
      obtain ⟨b2, eb2, h⟩ := bd_inv h
      obtain ⟨rb2, kb2⟩ := rf_inv eb2
      refine gR_2_2 C k0 (C.w wd_1_66) rb2 (dk kX3_heatSum 10 rfl) ?_
      refine g_iload_n C (i := 2) 2 rfl rfl (dk kX3_heatSum 11 rfl) ?_
      obtain ⟨c3, h⟩ := gd_inv h
      refine g_iald C kb2 c3 (dk kX3_heatSum 12 rfl) ?_
      refine g_iadd C (dk kX3_heatSum 13 rfl) ?_
      obtain ⟨x4, ex4, h⟩ := lt_inv h
      refine g_nmi ex4 ?_
      refine g_istore_n C (i := 1) (lv' := [(1, .int x4), (0, .ref (za Z v0)), (2, .int v2)]) (dk kX3_heatSum 14 rfl) rfl (by decide) rfl ?_
      obtain ⟨x5, ex5, h⟩ := lt_inv h
      refine g_iinc C (i := 2) (v := x5) (lv' := [(2, .int x5), (1, .int x4), (0, .ref (za Z v0))]) 2 (dk kX3_heatSum 15 rfl) rfl (by rw [ex5]; rfl) (by decide) rfl ?_
      refine g_goto C (tgt := 4) (dk kX3_heatSum 16 rfl) (by decide) ?_
      exact g_sub [2, 1, 0] rfl (ih x4 x5 y h he)
set_option maxRecDepth 100000 in
set_option maxHeartbeats 4000000 in
theorem t_X3_heatSum {l : Launch} {Z : ZZ} {X : XX} (μ : Mm) (a0 : Nat) (r : Int32) (k0 : (zk Z a0).1 = 2) (h : f_X3_heatSum (zk Z) μ a0 = some r) (C : Cx l Z false X cX3_heatSum RX3 3 (some .int)) (E : Ex Z X 0 0 0 (some (.int r)) Z μ) : G Z X 3 0 0 0 [(0, .ref (za Z a0))] [] μ := by
  unfold f_X3_heatSum at h
  refine g_iconst C (v := 0) (by decide) (dk kX3_heatSum 0 rfl) ?_
  refine g_istore_n C (i := 1) (lv' := [(1, .int 0), (0, .ref (za Z a0))]) (dk kX3_heatSum 1 rfl) rfl (by decide) rfl ?_
  refine g_iconst C (v := 0) (by decide) (dk kX3_heatSum 2 rfl) ?_
  refine g_istore_n C (i := 2) (lv' := [(2, .int 0), (1, .int 0), (0, .ref (za Z a0))]) (dk kX3_heatSum 3 rfl) rfl (by decide) rfl ?_
  obtain ⟨q6, eq6, h⟩ := bd_inv h
  refine g_sub [2, 1, 0] (lv' := [(0, .ref (za Z a0)), (1, .int 0), (2, .int 0)]) rfl ?_
  refine gl_X3_heatSum_4 a0 k0 μ C E.2 FU 0 0 _ eq6 ?_
  obtain ⟨x7, ex7, h⟩ := lt_inv h
  rw [← ex7]
  refine g_iload_n C (i := 1) 0 rfl rfl (dk kX3_heatSum 17 rfl) ?_
  have h9 := Option.some.inj h
  subst h9
  exact g_iret C E rfl rfl (Nat.le_refl 0) (Nat.le_refl 0) (dk kX3_heatSum 18 rfl)
theorem ct_X3_heatSum {l : Launch} {Z : ZZ} {μ : Mm} {a0 : Nat} {r : Int32} (k0 : (zk Z a0).1 = 2) (h : f_X3_heatSum (zk Z) μ a0 = some r) : CtM l Z false yX3_heatSum cX3_heatSum 3 (some .int) 0 0 0 [.ref (za Z a0)] μ (some (.int r)) Z μ := ct_of rfl rfl (Nat.le_of_ble_eq_true rfl) (fun X C E => t_X3_heatSum μ a0 r k0 h C E)

def qX3_lose : List (Nat × Instr × Nat) := [(0, .iconst 0, 1), (1, .istore_n 2, 1), (2, .iload_n 2, 1), (3, .aload_n 0, 1), (4, .getfield 9, 3), (7, .if_icmp .ge 37, 3), (10, .aload_n 0, 1), (11, .getfield 15, 3), (14, .iload_n 2, 1), (15, .aload_n 0, 1), (16, .getfield 15, 3), (19, .iload_n 2, 1), (20, .iaload, 1), (21, .iload_n 1, 1), (22, .if_icmp .le 14, 3), (25, .aload_n 0, 1), (26, .getfield 15, 3), (29, .iload_n 2, 1), (30, .iaload, 1), (31, .iload_n 1, 1), (32, .isub, 1), (33, .goto 4, 3), (36, .iconst 0, 1), (37, .iastore, 1), (38, .iinc 2 1, 3), (41, .goto (-39), 3), (44, .return_, 1)]
theorem kX3_lose : ∀ q ∈ qX3_lose, decode cX3_lose q.1 = .ok q.2 := by decide +kernel
def f_X3_lose_l2 (K : Nat → Nat × Nat) (v0 : Nat) (v1 : Int32) : Nat → Mm → Int32 → Option (Mm)
  | 0, _, _ => none
  | n + 1, μ, v2 => if (μ.1 v0 0) ≤ v2 then (some μ) else (bd (rf K μ v0 2 8) fun b2 => bd (rf K μ v0 2 8) fun b3 => gd (inb v2 (K b3).2) <| if (μ.1 b3 (ix v2)) ≤ v1 then (gd (inb v2 (K b2).2) <| lt1 (sI μ b2 (ix v2) 0) fun μ7 => lt1 (α := Int32) (v2 + 1) fun x8 => f_X3_lose_l2 K v0 v1 n μ7 x8) else (bd (rf K μ v0 2 8) fun b9 => gd (inb v2 (K b9).2) <| gd (inb v2 (K b2).2) <| lt1 (sI μ b2 (ix v2) ((μ.1 b9 (ix v2)) - v1)) fun μ12 => lt1 (α := Int32) (v2 + 1) fun x13 => f_X3_lose_l2 K v0 v1 n μ12 x13))
def f_X3_lose (K : Nat → Nat × Nat) (μ : Mm) (a0 : Nat) (a1 : Int32) : Option (Mm) :=
  bd (f_X3_lose_l2 K a0 a1 FU μ 0) fun q14 => lt1 q14 fun μ15 => some (μ15)
set_option maxRecDepth 100000 in
set_option maxHeartbeats 4000000 in
theorem gl_X3_lose_2 {l : Launch} {Z : ZZ} {X : XX} (v0 : Nat) (v1 : Int32) (k0 : (zk Z v0).1 = 2) (C : Cx l Z false X cX3_lose RX3 3 none) (E : xR X = rmm 0 0 0) : ∀ (n : Nat) (μ : Mm) (v2 : Int32) (y : Mm), f_X3_lose_l2 (zk Z) v0 v1 n μ v2 = some y → G Z X 3 0 0 44 [] [] y → G Z X 3 0 0 2 [(0, .ref (za Z v0)), (1, .int v1), (2, .int v2)] [] μ := by
  intro n
  induction n with
  | zero => intro μ v2 y h he; unfold f_X3_lose_l2 at h; cases h
  | succ n ih =>
    intro μ v2 y h he
    unfold f_X3_lose_l2 at h
    refine g_iload_n C (i := 2) 2 rfl rfl (dk kX3_lose 2 rfl) ?_
    refine g_aload_n C (i := 0) 0 rfl rfl (dk kX3_lose 3 rfl) ?_
    refine gI_2_0 C k0 (C.w wd_1_62) (dk kX3_lose 4 rfl) ?_
    refine g_icmp_ge C (tgt := 44) (dk kX3_lose 5 rfl) (by decide) (fun c1 => ?_) (fun c1 => ?_)
    · replace h := ite_t h c1
      cases h
      exact g_sub [] rfl he
    · replace h := ite_f h c1
      refine g_aload_n C (i := 0) 0 rfl rfl (dk kX3_lose 6 rfl) ?_
      obtain ⟨b2, eb2, h⟩ := bd_inv h
      obtain ⟨rb2, kb2⟩ := rf_inv eb2
      refine gR_2_2 C k0 (C.w wd_1_66) rb2 (dk kX3_lose 7 rfl) ?_
      refine g_iload_n C (i := 2) 2 rfl rfl (dk kX3_lose 8 rfl) ?_
      refine g_aload_n C (i := 0) 0 rfl rfl (dk kX3_lose 9 rfl) ?_
      obtain ⟨b3, eb3, h⟩ := bd_inv h
      obtain ⟨rb3, kb3⟩ := rf_inv eb3
      refine gR_2_2 C k0 (C.w wd_1_66) rb3 (dk kX3_lose 10 rfl) ?_
      refine g_iload_n C (i := 2) 2 rfl rfl (dk kX3_lose 11 rfl) ?_
      obtain ⟨c4, h⟩ := gd_inv h
      refine g_iald C kb3 c4 (dk kX3_lose 12 rfl) ?_
      refine g_iload_n C (i := 1) 1 rfl rfl (dk kX3_lose 13 rfl) ?_
      refine g_icmp_le C (tgt := 36) (dk kX3_lose 14 rfl) (by decide) (fun c5 => ?_) (fun c5 => ?_)
      · replace h := ite_t h c5
        refine g_iconst C (v := 0) (by decide) (dk kX3_lose 22 rfl) ?_
        obtain ⟨c6, h⟩ := gd_inv h
        obtain ⟨μ7, eμ7, h⟩ := lt_inv h
        refine g_iast C kb2 c6 eμ7 (dk kX3_lose 23 rfl) ?_
        obtain ⟨x8, ex8, h⟩ := lt_inv h
        refine g_iinc C (i := 2) (v := x8) (lv' := [(2, .int x8), (0, .ref (za Z v0)), (1, .int v1)]) 2 (dk kX3_lose 24 rfl) rfl (by rw [ex8]; rfl) (by decide) rfl ?_
        refine g_goto C (tgt := 2) (dk kX3_lose 25 rfl) (by decide) ?_
        exact g_sub [1, 2, 0] rfl (ih μ7 x8 y h he)
      · replace h := ite_f h c5
        refine g_aload_n C (i := 0) 0 rfl rfl (dk kX3_lose 15 rfl) ?_
        obtain ⟨b9, eb9, h⟩ := bd_inv h
        obtain ⟨rb9, kb9⟩ := rf_inv eb9
        refine gR_2_2 C k0 (C.w wd_1_66) rb9 (dk kX3_lose 16 rfl) ?_
        refine g_iload_n C (i := 2) 2 rfl rfl (dk kX3_lose 17 rfl) ?_
        obtain ⟨c10, h⟩ := gd_inv h
        refine g_iald C kb9 c10 (dk kX3_lose 18 rfl) ?_
        refine g_iload_n C (i := 1) 1 rfl rfl (dk kX3_lose 19 rfl) ?_
        refine g_isub C (dk kX3_lose 20 rfl) ?_
        refine g_goto C (tgt := 37) (dk kX3_lose 21 rfl) (by decide) ?_
        obtain ⟨c11, h⟩ := gd_inv h
        obtain ⟨μ12, eμ12, h⟩ := lt_inv h
        refine g_iast C kb2 c11 eμ12 (dk kX3_lose 23 rfl) ?_
        obtain ⟨x13, ex13, h⟩ := lt_inv h
        refine g_iinc C (i := 2) (v := x13) (lv' := [(2, .int x13), (0, .ref (za Z v0)), (1, .int v1)]) 2 (dk kX3_lose 24 rfl) rfl (by rw [ex13]; rfl) (by decide) rfl ?_
        refine g_goto C (tgt := 2) (dk kX3_lose 25 rfl) (by decide) ?_
        exact g_sub [1, 2, 0] rfl (ih μ12 x13 y h he)
set_option maxRecDepth 100000 in
set_option maxHeartbeats 4000000 in
theorem t_X3_lose {l : Launch} {Z : ZZ} {X : XX} (μ : Mm) (a0 : Nat) (a1 : Int32) (μ' : Mm) (k0 : (zk Z a0).1 = 2) (h : f_X3_lose (zk Z) μ a0 a1 = some μ') (C : Cx l Z false X cX3_lose RX3 3 none) (E : Ex Z X 0 0 0 none Z μ') : G Z X 3 0 0 0 [(0, .ref (za Z a0)), (1, .int a1)] [] μ := by
  unfold f_X3_lose at h
  refine g_iconst C (v := 0) (by decide) (dk kX3_lose 0 rfl) ?_
  refine g_istore_n C (i := 2) (lv' := [(2, .int 0), (0, .ref (za Z a0)), (1, .int a1)]) (dk kX3_lose 1 rfl) rfl (by decide) rfl ?_
  obtain ⟨q14, eq14, h⟩ := bd_inv h
  refine g_sub [1, 2, 0] (lv' := [(0, .ref (za Z a0)), (1, .int a1), (2, .int 0)]) rfl ?_
  refine gl_X3_lose_2 a0 a1 k0 C E.2 FU μ 0 _ eq14 ?_
  obtain ⟨μ15, eμ15, h⟩ := lt_inv h
  rw [← eμ15]
  have h9 := Option.some.inj h
  subst h9
  exact g_vret C E (Nat.le_refl 0) (Nat.le_refl 0) (dk kX3_lose 26 rfl)
theorem ct_X3_lose {l : Launch} {Z : ZZ} {μ : Mm} {a0 : Nat} {a1 : Int32} {μ' : Mm} (k0 : (zk Z a0).1 = 2) (h : f_X3_lose (zk Z) μ a0 a1 = some μ') : CtM l Z false yX3_lose cX3_lose 3 none 0 0 0 [.ref (za Z a0), .int a1] μ none Z μ' := ct_of rfl rfl (Nat.le_of_ble_eq_true rfl) (fun X C E => t_X3_lose μ a0 a1 μ' k0 h C E)

def qX3_mostWornDot : List (Nat × Instr × Nat) := [(0, .iconst 0, 1), (1, .istore_n 1, 1), (2, .iconst 1, 1), (3, .istore_n 2, 1), (4, .iload_n 2, 1), (5, .aload_n 0, 1), (6, .getfield 9, 3), (9, .if_icmp .ge 26, 3), (12, .aload_n 0, 1), (13, .getfield 19, 3), (16, .iload_n 2, 1), (17, .iaload, 1), (18, .aload_n 0, 1), (19, .getfield 19, 3), (22, .iload_n 1, 1), (23, .iaload, 1), (24, .if_icmp .le 5, 3), (27, .iload_n 2, 1), (28, .istore_n 1, 1), (29, .iinc 2 1, 3), (32, .goto (-28), 3), (35, .iload_n 1, 1), (36, .ireturn, 1)]
theorem kX3_mostWornDot : ∀ q ∈ qX3_mostWornDot, decode cX3_mostWornDot q.1 = .ok q.2 := by decide +kernel
def f_X3_mostWornDot_l4 (K : Nat → Nat × Nat) (μ : Mm) (v0 : Nat) : Nat → Int32 → Int32 → Option (Int32)
  | 0, _, _ => none
  | n + 1, v1, v2 => if (μ.1 v0 0) ≤ v2 then (some v1) else (bd (rf K μ v0 3 8) fun b2 => gd (inb v2 (K b2).2) <| bd (rf K μ v0 3 8) fun b4 => gd (inb v1 (K b4).2) <| if (μ.1 b2 (ix v2)) ≤ (μ.1 b4 (ix v1)) then (lt1 (α := Int32) (v2 + 1) fun x7 => f_X3_mostWornDot_l4 K μ v0 n v1 x7) else (lt1 (α := Int32) (v2 + 1) fun x8 => f_X3_mostWornDot_l4 K μ v0 n v2 x8))
def f_X3_mostWornDot (K : Nat → Nat × Nat) (μ : Mm) (a0 : Nat) : Option (Int32) :=
  bd (f_X3_mostWornDot_l4 K μ a0 FU 0 1) fun q9 => lt1 q9 fun x10 => some x10
set_option maxRecDepth 100000 in
set_option maxHeartbeats 4000000 in
theorem gl_X3_mostWornDot_4 {l : Launch} {Z : ZZ} {X : XX} (v0 : Nat) (k0 : (zk Z v0).1 = 2) (μ : Mm) (C : Cx l Z false X cX3_mostWornDot RX3 3 (some .int)) (E : xR X = rmm 0 0 0) : ∀ (n : Nat) (v1 : Int32) (v2 : Int32) (y : Int32), f_X3_mostWornDot_l4 (zk Z) μ v0 n v1 v2 = some y → G Z X 3 0 0 35 [(1, .int y)] [] (μ) → G Z X 3 0 0 4 [(0, .ref (za Z v0)), (1, .int v1), (2, .int v2)] [] μ := by
  intro n
  induction n with
  | zero => intro v1 v2 y h he; unfold f_X3_mostWornDot_l4 at h; cases h
  | succ n ih =>
    intro v1 v2 y h he
    unfold f_X3_mostWornDot_l4 at h
    refine g_iload_n C (i := 2) 2 rfl rfl (dk kX3_mostWornDot 4 rfl) ?_
    refine g_aload_n C (i := 0) 0 rfl rfl (dk kX3_mostWornDot 5 rfl) ?_
    refine gI_2_0 C k0 (C.w wd_1_62) (dk kX3_mostWornDot 6 rfl) ?_
    refine g_icmp_ge C (tgt := 35) (dk kX3_mostWornDot 7 rfl) (by decide) (fun c1 => ?_) (fun c1 => ?_)
    · replace h := ite_t h c1
      cases h
      exact g_sub [1] rfl he
    · replace h := ite_f h c1
      refine g_aload_n C (i := 0) 0 rfl rfl (dk kX3_mostWornDot 8 rfl) ?_
      obtain ⟨b2, eb2, h⟩ := bd_inv h
      obtain ⟨rb2, kb2⟩ := rf_inv eb2
      refine gR_2_3 C k0 (C.w wd_1_68) rb2 (dk kX3_mostWornDot 9 rfl) ?_
      refine g_iload_n C (i := 2) 2 rfl rfl (dk kX3_mostWornDot 10 rfl) ?_
      obtain ⟨c3, h⟩ := gd_inv h
      refine g_iald C kb2 c3 (dk kX3_mostWornDot 11 rfl) ?_
      refine g_aload_n C (i := 0) 0 rfl rfl (dk kX3_mostWornDot 12 rfl) ?_
      obtain ⟨b4, eb4, h⟩ := bd_inv h
      obtain ⟨rb4, kb4⟩ := rf_inv eb4
      refine gR_2_3 C k0 (C.w wd_1_68) rb4 (dk kX3_mostWornDot 13 rfl) ?_
      refine g_iload_n C (i := 1) 1 rfl rfl (dk kX3_mostWornDot 14 rfl) ?_
      obtain ⟨c5, h⟩ := gd_inv h
      refine g_iald C kb4 c5 (dk kX3_mostWornDot 15 rfl) ?_
      refine g_icmp_le C (tgt := 29) (dk kX3_mostWornDot 16 rfl) (by decide) (fun c6 => ?_) (fun c6 => ?_)
      · replace h := ite_t h c6
        obtain ⟨x7, ex7, h⟩ := lt_inv h
        refine g_iinc C (i := 2) (v := x7) (lv' := [(2, .int x7), (0, .ref (za Z v0)), (1, .int v1)]) 2 (dk kX3_mostWornDot 19 rfl) rfl (by rw [ex7]; rfl) (by decide) rfl ?_
        refine g_goto C (tgt := 4) (dk kX3_mostWornDot 20 rfl) (by decide) ?_
        exact g_sub [1, 2, 0] rfl (ih v1 x7 y h he)
      · replace h := ite_f h c6
        refine g_iload_n C (i := 2) 2 rfl rfl (dk kX3_mostWornDot 17 rfl) ?_
        refine g_istore_n C (i := 1) (lv' := [(1, .int v2), (0, .ref (za Z v0)), (2, .int v2)]) (dk kX3_mostWornDot 18 rfl) rfl (by decide) rfl ?_
        obtain ⟨x8, ex8, h⟩ := lt_inv h
        refine g_iinc C (i := 2) (v := x8) (lv' := [(2, .int x8), (1, .int v2), (0, .ref (za Z v0))]) 2 (dk kX3_mostWornDot 19 rfl) rfl (by rw [ex8]; rfl) (by decide) rfl ?_
        refine g_goto C (tgt := 4) (dk kX3_mostWornDot 20 rfl) (by decide) ?_
        exact g_sub [2, 1, 0] rfl (ih v2 x8 y h he)
set_option maxRecDepth 100000 in
set_option maxHeartbeats 4000000 in
theorem t_X3_mostWornDot {l : Launch} {Z : ZZ} {X : XX} (μ : Mm) (a0 : Nat) (r : Int32) (k0 : (zk Z a0).1 = 2) (h : f_X3_mostWornDot (zk Z) μ a0 = some r) (C : Cx l Z false X cX3_mostWornDot RX3 3 (some .int)) (E : Ex Z X 0 0 0 (some (.int r)) Z μ) : G Z X 3 0 0 0 [(0, .ref (za Z a0))] [] μ := by
  unfold f_X3_mostWornDot at h
  refine g_iconst C (v := 0) (by decide) (dk kX3_mostWornDot 0 rfl) ?_
  refine g_istore_n C (i := 1) (lv' := [(1, .int 0), (0, .ref (za Z a0))]) (dk kX3_mostWornDot 1 rfl) rfl (by decide) rfl ?_
  refine g_iconst C (v := 1) (by decide) (dk kX3_mostWornDot 2 rfl) ?_
  refine g_istore_n C (i := 2) (lv' := [(2, .int 1), (1, .int 0), (0, .ref (za Z a0))]) (dk kX3_mostWornDot 3 rfl) rfl (by decide) rfl ?_
  obtain ⟨q9, eq9, h⟩ := bd_inv h
  refine g_sub [2, 1, 0] (lv' := [(0, .ref (za Z a0)), (1, .int 0), (2, .int 1)]) rfl ?_
  refine gl_X3_mostWornDot_4 a0 k0 μ C E.2 FU 0 1 _ eq9 ?_
  obtain ⟨x10, ex10, h⟩ := lt_inv h
  rw [← ex10]
  refine g_iload_n C (i := 1) 0 rfl rfl (dk kX3_mostWornDot 21 rfl) ?_
  have h9 := Option.some.inj h
  subst h9
  exact g_iret C E rfl rfl (Nat.le_refl 0) (Nat.le_refl 0) (dk kX3_mostWornDot 22 rfl)
theorem ct_X3_mostWornDot {l : Launch} {Z : ZZ} {μ : Mm} {a0 : Nat} {r : Int32} (k0 : (zk Z a0).1 = 2) (h : f_X3_mostWornDot (zk Z) μ a0 = some r) : CtM l Z false yX3_mostWornDot cX3_mostWornDot 3 (some .int) 0 0 0 [.ref (za Z a0)] μ (some (.int r)) Z μ := ct_of rfl rfl (Nat.le_of_ble_eq_true rfl) (fun X C E => t_X3_mostWornDot μ a0 r k0 h C E)

def qX3_printRows : List (Nat × Instr × Nat) := [(0, .iconst 0, 1), (1, .istore 4, 2), (3, .iconst 0, 1), (4, .istore 5, 2), (6, .iload 5, 2), (8, .bipush 6, 2), (10, .if_icmp .ge 118, 3), (13, .iconst 0, 1), (14, .istore 6, 2), (16, .iload 6, 2), (18, .aload_n 1, 1), (19, .getfield 38, 3), (22, .if_icmp .ge 93, 3), (25, .iload_n 2, 1), (26, .iload 6, 2), (28, .iadd, 1), (29, .istore 7, 2), (31, .aload_n 1, 1), (32, .getfield 43, 3), (35, .iload 5, 2), (37, .iaload, 1), (38, .iload 6, 2), (40, .ishr, 1), (41, .iconst 1, 1), (42, .iand, 1), (43, .iconst 1, 1), (44, .if_icmp .ne 7, 3), (47, .iconst 1, 1), (48, .goto 4, 3), (51, .iconst 0, 1), (52, .istore 8, 2), (54, .iload 8, 2), (56, .ifCond .eq 19, 3), (59, .aload_n 0, 1), (60, .iload 7, 2), (62, .aload_n 3, 1), (63, .invokevirtual 46, 3), (66, .aload_n 3, 1), (67, .iconst 4, 1), (68, .iaload, 1), (69, .if_icmp .le 22, 3), (72, .goto 16, 3), (75, .aload_n 0, 1), (76, .getfield 15, 3), (79, .iload 7, 2), (81, .iaload, 1), (82, .aload_n 3, 1), (83, .iconst 1, 1), (84, .iaload, 1), (85, .if_icmp .le 6, 3), (88, .iinc 4 1, 3), (91, .iload 8, 2), (93, .ifCond .eq 16, 3), (96, .aload_n 0, 1), (97, .iload 7, 2), (99, .bipush 10, 2), (101, .aload_n 1, 1), (102, .getfield 50, 3), (105, .imul, 1), (106, .invokevirtual 53, 3), (109, .iinc 6 1, 3), (112, .goto (-96), 3), (115, .aload_n 0, 1), (116, .aload_n 3, 1), (117, .iconst 0, 1), (118, .iaload, 1), (119, .invokevirtual 57, 3), (122, .iinc 5 1, 3), (125, .goto (-119), 3), (128, .iload 4, 2), (130, .ireturn, 1)]
theorem kX3_printRows : ∀ q ∈ qX3_printRows, decode cX3_printRows q.1 = .ok q.2 := by decide +kernel
def f_X3_printRows_l16 (K : Nat → Nat × Nat) (v0 : Nat) (v1 : Nat) (v2 : Int32) (v3 : Nat) (v5 : Int32) : Nat → Mm → Int32 → Int32 → Option (Int32 × Mm)
  | 0, _, _, _ => none
  | n + 1, μ, v4, v6 => if (μ.1 v1 0) ≤ v6 then (some (v4, μ)) else (lt1 (α := Int32) (v2 + v6) fun x3 => bd (rf K μ v1 4 8) fun b4 => gd (inb v5 (K b4).2) <| lt1 (α := Int32) (if (((μ.1 b4 (ix v5)) >>> (v6 &&& 31)) &&& 1) = 1 then 1 else 0) fun x6 => if x6 = 0 then (bd (rf K μ v0 2 8) fun b9 => gd (inb x3 (K b9).2) <| gd (inb 1 (K v3).2) <| if (μ.1 b9 (ix x3)) ≤ (μ.1 v3 (ix 1)) then (lt1 (α := Int32) (v6 + 1) fun x14 => f_X3_printRows_l16 K v0 v1 v2 v3 v5 n μ v4 x14) else (lt1 (α := Int32) (v4 + 1) fun x15 => lt1 (α := Int32) (v6 + 1) fun x17 => f_X3_printRows_l16 K v0 v1 v2 v3 v5 n μ x15 x17)) else (bd (f_X3_fadeOf K μ v0 x3 v3) fun x19 => gd (inb 4 (K v3).2) <| if x19 ≤ (μ.1 v3 (ix 4)) then (bd (f_X3_burn K μ v0 x3 (10 * (μ.1 v1 1))) fun μ24 => lt1 (α := Int32) (v6 + 1) fun x25 => f_X3_printRows_l16 K v0 v1 v2 v3 v5 n μ24 v4 x25) else (lt1 (α := Int32) (v4 + 1) fun x26 => bd (f_X3_burn K μ v0 x3 (10 * (μ.1 v1 1))) fun μ29 => lt1 (α := Int32) (v6 + 1) fun x30 => f_X3_printRows_l16 K v0 v1 v2 v3 v5 n μ29 x26 x30)))
def f_X3_printRows_l6 (K : Nat → Nat × Nat) (v0 : Nat) (v1 : Nat) (v2 : Int32) (v3 : Nat) : Nat → Mm → Int32 → Int32 → Option (Int32 × Mm)
  | 0, _, _, _ => none
  | n + 1, μ, v4, v5 => if 6 ≤ v5 then (some (v4, μ)) else (bd (f_X3_printRows_l16 K v0 v1 v2 v3 v5 FU μ v4 0) fun q32 => lt1 q32.1 fun x33 => lt1 q32.2 fun μ34 => gd (inb 0 (K v3).2) <| bd (f_X3_lose K μ34 v0 (μ34.1 v3 (ix 0))) fun μ37 => lt1 (α := Int32) (v5 + 1) fun x38 => f_X3_printRows_l6 K v0 v1 v2 v3 n μ37 x33 x38)
def f_X3_printRows (K : Nat → Nat × Nat) (μ : Mm) (a0 : Nat) (a1 : Nat) (a2 : Int32) (a3 : Nat) : Option (Int32 × Mm) :=
  bd (f_X3_printRows_l6 K a0 a1 a2 a3 FU μ 0 0) fun q39 => lt1 q39.1 fun x40 => lt1 q39.2 fun μ41 => some (x40, μ41)
set_option maxRecDepth 100000 in
set_option maxHeartbeats 4000000 in
theorem gl_X3_printRows_16 {l : Launch} {Z : ZZ} {X : XX} (v0 : Nat) (v1 : Nat) (v2 : Int32) (v3 : Nat) (v5 : Int32) (k0 : (zk Z v0).1 = 2) (k1 : (zk Z v1).1 = 3) (k3 : (zk Z v3).1 = 8) (C : Cx l Z false X cX3_printRows RX3 9 (some .int)) (E : xR X = rmm 1 0 0) : ∀ (n : Nat) (μ : Mm) (v4 : Int32) (v6 : Int32) (y : Int32 × Mm), f_X3_printRows_l16 (zk Z) v0 v1 v2 v3 v5 n μ v4 v6 = some y → G Z X 9 0 0 115 [(0, .ref (za Z v0)), (1, .ref (za Z v1)), (2, .int v2), (3, .ref (za Z v3)), (4, .int y.1), (5, .int v5)] [] y.2 → G Z X 9 0 0 16 [(0, .ref (za Z v0)), (1, .ref (za Z v1)), (2, .int v2), (3, .ref (za Z v3)), (4, .int v4), (5, .int v5), (6, .int v6)] [] μ := by
  intro n
  induction n with
  | zero => intro μ v4 v6 y h he; unfold f_X3_printRows_l16 at h; cases h
  | succ n ih =>
    intro μ v4 v6 y h he
    unfold f_X3_printRows_l16 at h
    refine g_iload C (i := 6) 6 rfl (dk kX3_printRows 9 rfl) ?_
    refine g_aload_n C (i := 1) 1 rfl rfl (dk kX3_printRows 10 rfl) ?_
    refine gIN_3_0 C k1 (nf_8 C) (dk kX3_printRows 11 rfl) ?_
    refine g_icmp_ge C (tgt := 115) (dk kX3_printRows 12 rfl) (by decide) (fun c2 => ?_) (fun c2 => ?_)
    · replace h := ite_t h c2
      cases h
      exact g_sub [0, 1, 2, 3, 4, 5] rfl he
    · replace h := ite_f h c2
      refine g_iload_n C (i := 2) 2 rfl rfl (dk kX3_printRows 13 rfl) ?_
      refine g_iload C (i := 6) 6 rfl (dk kX3_printRows 14 rfl) ?_
      refine g_iadd C (dk kX3_printRows 15 rfl) ?_
      obtain ⟨x3, ex3, h⟩ := lt_inv h
      refine g_nmi ex3 ?_
      refine g_istore C (i := 7) (lv' := [(7, .int x3), (0, .ref (za Z v0)), (1, .ref (za Z v1)), (2, .int v2), (3, .ref (za Z v3)), (4, .int v4), (5, .int v5), (6, .int v6)]) (dk kX3_printRows 16 rfl) (by decide) rfl ?_
      refine g_aload_n C (i := 1) 2 rfl rfl (dk kX3_printRows 17 rfl) ?_
      obtain ⟨b4, eb4, h⟩ := bd_inv h
      obtain ⟨rb4, kb4⟩ := rf_inv eb4
      refine gRN_3_4 C k1 (nf_13 C) rb4 (dk kX3_printRows 18 rfl) ?_
      refine g_iload C (i := 5) 6 rfl (dk kX3_printRows 19 rfl) ?_
      obtain ⟨c5, h⟩ := gd_inv h
      refine g_iald C kb4 c5 (dk kX3_printRows 20 rfl) ?_
      refine g_iload C (i := 6) 7 rfl (dk kX3_printRows 21 rfl) ?_
      refine g_ishr C (dk kX3_printRows 22 rfl) ?_
      refine g_iconst C (v := 1) (by decide) (dk kX3_printRows 23 rfl) ?_
      refine g_iand C (dk kX3_printRows 24 rfl) ?_
      refine g_iconst C (v := 1) (by decide) (dk kX3_printRows 25 rfl) ?_
      obtain ⟨x6, ex6, h⟩ := lt_inv h
      have kj7 : G Z X 9 0 0 52 [(7, .int x3), (0, .ref (za Z v0)), (1, .ref (za Z v1)), (2, .int v2), (3, .ref (za Z v3)), (4, .int v4), (5, .int v5), (6, .int v6)] [.int x6] μ := by
        refine g_istore C (i := 8) (lv' := [(8, .int x6), (7, .int x3), (0, .ref (za Z v0)), (1, .ref (za Z v1)), (2, .int v2), (3, .ref (za Z v3)), (4, .int v4), (5, .int v5), (6, .int v6)]) (dk kX3_printRows 30 rfl) (by decide) rfl ?_
        refine g_iload C (i := 8) 0 rfl (dk kX3_printRows 31 rfl) ?_
        refine g_if_eq C (tgt := 75) (dk kX3_printRows 32 rfl) (by decide) (fun c8 => ?_) (fun c8 => ?_)
        · replace h := ite_t h c8
          refine g_aload_n C (i := 0) 2 rfl rfl (dk kX3_printRows 42 rfl) ?_
          obtain ⟨b9, eb9, h⟩ := bd_inv h
          obtain ⟨rb9, kb9⟩ := rf_inv eb9
          refine gR_2_2 C k0 (C.w wd_1_66) rb9 (dk kX3_printRows 43 rfl) ?_
          refine g_iload C (i := 7) 1 rfl (dk kX3_printRows 44 rfl) ?_
          obtain ⟨c10, h⟩ := gd_inv h
          refine g_iald C kb9 c10 (dk kX3_printRows 45 rfl) ?_
          refine g_aload_n C (i := 3) 5 rfl rfl (dk kX3_printRows 46 rfl) ?_
          refine g_iconst C (v := 1) (by decide) (dk kX3_printRows 47 rfl) ?_
          obtain ⟨c11, h⟩ := gd_inv h
          refine g_iald C k3 c11 (dk kX3_printRows 48 rfl) ?_
          refine g_icmp_le C (tgt := 91) (dk kX3_printRows 49 rfl) (by decide) (fun c12 => ?_) (fun c12 => ?_)
          · replace h := ite_t h c12
            refine g_iload C (i := 8) 0 rfl (dk kX3_printRows 51 rfl) ?_
            refine g_if_eq C (tgt := 109) (dk kX3_printRows 52 rfl) (by decide) (fun c13 => ?_) (fun c => by first | exact absurd c c8 | exact absurd c8 c)
            obtain ⟨x14, ex14, h⟩ := lt_inv h
            refine g_iinc C (i := 6) (v := x14) (lv' := [(6, .int x14), (8, .int x6), (7, .int x3), (0, .ref (za Z v0)), (1, .ref (za Z v1)), (2, .int v2), (3, .ref (za Z v3)), (4, .int v4), (5, .int v5)]) 8 (dk kX3_printRows 60 rfl) rfl (by rw [ex14]; rfl) (by decide) rfl ?_
            refine g_goto C (tgt := 16) (dk kX3_printRows 61 rfl) (by decide) ?_
            exact g_sub [3, 4, 5, 6, 7, 8, 0] rfl (ih μ v4 x14 y h he)
          · replace h := ite_f h c12
            obtain ⟨x15, ex15, h⟩ := lt_inv h
            refine g_iinc C (i := 4) (v := x15) (lv' := [(4, .int x15), (8, .int x6), (7, .int x3), (0, .ref (za Z v0)), (1, .ref (za Z v1)), (2, .int v2), (3, .ref (za Z v3)), (5, .int v5), (6, .int v6)]) 6 (dk kX3_printRows 50 rfl) rfl (by rw [ex15]; rfl) (by decide) rfl ?_
            refine g_iload C (i := 8) 1 rfl (dk kX3_printRows 51 rfl) ?_
            refine g_if_eq C (tgt := 109) (dk kX3_printRows 52 rfl) (by decide) (fun c16 => ?_) (fun c => by first | exact absurd c c8 | exact absurd c8 c)
            obtain ⟨x17, ex17, h⟩ := lt_inv h
            refine g_iinc C (i := 6) (v := x17) (lv' := [(6, .int x17), (4, .int x15), (8, .int x6), (7, .int x3), (0, .ref (za Z v0)), (1, .ref (za Z v1)), (2, .int v2), (3, .ref (za Z v3)), (5, .int v5)]) 8 (dk kX3_printRows 60 rfl) rfl (by rw [ex17]; rfl) (by decide) rfl ?_
            refine g_goto C (tgt := 16) (dk kX3_printRows 61 rfl) (by decide) ?_
            exact g_sub [4, 5, 6, 7, 1, 8, 0] rfl (ih μ x15 x17 y h he)
        · replace h := ite_f h c8
          refine g_aload_n C (i := 0) 2 rfl rfl (dk kX3_printRows 33 rfl) ?_
          refine g_iload C (i := 7) 1 rfl (dk kX3_printRows 34 rfl) ?_
          refine g_aload_n C (i := 3) 5 rfl rfl (dk kX3_printRows 35 rfl) ?_
          obtain ⟨x19, eq18, h⟩ := bd_inv h
          refine g_callV C E (rest := []) 2 (ct_X3_fadeOf k0 k3 eq18) wd_3_123 mm_X3_fadeOf ⟨rfl, by decide, by decide, by decide⟩ rfl (by decide) k0 (by decide) rfl rfl (Nat.le_of_ble_eq_true rfl) (by decide) (dk kX3_printRows 36 rfl) ?_
          refine g_aload_n C (i := 3) 5 rfl rfl (dk kX3_printRows 37 rfl) ?_
          refine g_iconst C (v := 4) (by decide) (dk kX3_printRows 38 rfl) ?_
          obtain ⟨c20, h⟩ := gd_inv h
          refine g_iald C k3 c20 (dk kX3_printRows 39 rfl) ?_
          refine g_icmp_le C (tgt := 91) (dk kX3_printRows 40 rfl) (by decide) (fun c21 => ?_) (fun c21 => ?_)
          · replace h := ite_t h c21
            refine g_iload C (i := 8) 0 rfl (dk kX3_printRows 51 rfl) ?_
            refine g_if_eq C (tgt := 109) (dk kX3_printRows 52 rfl) (by decide) (fun c => by first | exact absurd c c8 | exact absurd c8 c) (fun c22 => ?_)
            refine g_aload_n C (i := 0) 2 rfl rfl (dk kX3_printRows 53 rfl) ?_
            refine g_iload C (i := 7) 1 rfl (dk kX3_printRows 54 rfl) ?_
            refine g_bipush C (v := 10) (by decide) (dk kX3_printRows 55 rfl) ?_
            refine g_aload_n C (i := 1) 3 rfl rfl (dk kX3_printRows 56 rfl) ?_
            refine gIN_3_1 C k1 (nf_10 C) (dk kX3_printRows 57 rfl) ?_
            refine g_imul C (dk kX3_printRows 58 rfl) ?_
            obtain ⟨μ24, eq23, h⟩ := bd_inv h
            refine g_callV C E (rest := []) 2 (ct_X3_burn k0 eq23) wd_3_127 mm_X3_burn ⟨rfl, by decide, by decide, by decide⟩ rfl (by decide) k0 (by decide) rfl rfl (Nat.le_of_ble_eq_true rfl) (by decide) (dk kX3_printRows 59 rfl) ?_
            obtain ⟨x25, ex25, h⟩ := lt_inv h
            refine g_iinc C (i := 6) (v := x25) (lv' := [(6, .int x25), (8, .int x6), (7, .int x3), (0, .ref (za Z v0)), (1, .ref (za Z v1)), (2, .int v2), (3, .ref (za Z v3)), (4, .int v4), (5, .int v5)]) 8 (dk kX3_printRows 60 rfl) rfl (by rw [ex25]; rfl) (by decide) rfl ?_
            refine g_goto C (tgt := 16) (dk kX3_printRows 61 rfl) (by decide) ?_
            exact g_sub [3, 4, 5, 6, 7, 8, 0] rfl (ih μ24 v4 x25 y h he)
          · replace h := ite_f h c21
            refine g_goto C (tgt := 88) (dk kX3_printRows 41 rfl) (by decide) ?_
            obtain ⟨x26, ex26, h⟩ := lt_inv h
            refine g_iinc C (i := 4) (v := x26) (lv' := [(4, .int x26), (8, .int x6), (7, .int x3), (0, .ref (za Z v0)), (1, .ref (za Z v1)), (2, .int v2), (3, .ref (za Z v3)), (5, .int v5), (6, .int v6)]) 6 (dk kX3_printRows 50 rfl) rfl (by rw [ex26]; rfl) (by decide) rfl ?_
            refine g_iload C (i := 8) 1 rfl (dk kX3_printRows 51 rfl) ?_
            refine g_if_eq C (tgt := 109) (dk kX3_printRows 52 rfl) (by decide) (fun c => by first | exact absurd c c8 | exact absurd c8 c) (fun c27 => ?_)
            refine g_aload_n C (i := 0) 3 rfl rfl (dk kX3_printRows 53 rfl) ?_
            refine g_iload C (i := 7) 2 rfl (dk kX3_printRows 54 rfl) ?_
            refine g_bipush C (v := 10) (by decide) (dk kX3_printRows 55 rfl) ?_
            refine g_aload_n C (i := 1) 4 rfl rfl (dk kX3_printRows 56 rfl) ?_
            refine gIN_3_1 C k1 (nf_10 C) (dk kX3_printRows 57 rfl) ?_
            refine g_imul C (dk kX3_printRows 58 rfl) ?_
            obtain ⟨μ29, eq28, h⟩ := bd_inv h
            refine g_callV C E (rest := []) 2 (ct_X3_burn k0 eq28) wd_3_127 mm_X3_burn ⟨rfl, by decide, by decide, by decide⟩ rfl (by decide) k0 (by decide) rfl rfl (Nat.le_of_ble_eq_true rfl) (by decide) (dk kX3_printRows 59 rfl) ?_
            obtain ⟨x30, ex30, h⟩ := lt_inv h
            refine g_iinc C (i := 6) (v := x30) (lv' := [(6, .int x30), (4, .int x26), (8, .int x6), (7, .int x3), (0, .ref (za Z v0)), (1, .ref (za Z v1)), (2, .int v2), (3, .ref (za Z v3)), (5, .int v5)]) 8 (dk kX3_printRows 60 rfl) rfl (by rw [ex30]; rfl) (by decide) rfl ?_
            refine g_goto C (tgt := 16) (dk kX3_printRows 61 rfl) (by decide) ?_
            exact g_sub [4, 5, 6, 7, 1, 8, 0] rfl (ih μ29 x26 x30 y h he)
      clear h
      refine g_icmp_ne C (tgt := 51) (dk kX3_printRows 26 rfl) (by decide) (fun c31 => ?_) (fun c31 => ?_)
      · refine g_iconst C (v := 0) (by decide) (dk kX3_printRows 29 rfl) ?_
        exact g_nmi (by rw [ex6, if_neg c31]) kj7
      · refine g_iconst C (v := 1) (by decide) (dk kX3_printRows 27 rfl) ?_
        refine g_goto C (tgt := 52) (dk kX3_printRows 28 rfl) (by decide) ?_
        exact g_nmi (by rw [ex6, if_pos c31]) kj7
set_option maxRecDepth 100000 in
set_option maxHeartbeats 4000000 in
theorem gl_X3_printRows_6 {l : Launch} {Z : ZZ} {X : XX} (v0 : Nat) (v1 : Nat) (v2 : Int32) (v3 : Nat) (k0 : (zk Z v0).1 = 2) (k1 : (zk Z v1).1 = 3) (k3 : (zk Z v3).1 = 8) (C : Cx l Z false X cX3_printRows RX3 9 (some .int)) (E : xR X = rmm 1 0 0) : ∀ (n : Nat) (μ : Mm) (v4 : Int32) (v5 : Int32) (y : Int32 × Mm), f_X3_printRows_l6 (zk Z) v0 v1 v2 v3 n μ v4 v5 = some y → G Z X 9 0 0 128 [(4, .int y.1)] [] y.2 → G Z X 9 0 0 6 [(0, .ref (za Z v0)), (1, .ref (za Z v1)), (2, .int v2), (3, .ref (za Z v3)), (4, .int v4), (5, .int v5)] [] μ := by
  intro n
  induction n with
  | zero => intro μ v4 v5 y h he; unfold f_X3_printRows_l6 at h; cases h
  | succ n ih =>
    intro μ v4 v5 y h he
    unfold f_X3_printRows_l6 at h
    refine g_iload C (i := 5) 5 rfl (dk kX3_printRows 4 rfl) ?_
    refine g_bipush C (v := 6) (by decide) (dk kX3_printRows 5 rfl) ?_
    refine g_icmp_ge C (tgt := 128) (dk kX3_printRows 6 rfl) (by decide) (fun c1 => ?_) (fun c1 => ?_)
    · replace h := ite_t h c1
      cases h
      exact g_sub [4] rfl he
    · replace h := ite_f h c1
      refine g_iconst C (v := 0) (by decide) (dk kX3_printRows 7 rfl) ?_
      refine g_istore C (i := 6) (lv' := [(6, .int 0), (0, .ref (za Z v0)), (1, .ref (za Z v1)), (2, .int v2), (3, .ref (za Z v3)), (4, .int v4), (5, .int v5)]) (dk kX3_printRows 8 rfl) (by decide) rfl ?_
      obtain ⟨q32, eq32, h⟩ := bd_inv h
      refine g_sub [1, 2, 3, 4, 5, 6, 0] (lv' := [(0, .ref (za Z v0)), (1, .ref (za Z v1)), (2, .int v2), (3, .ref (za Z v3)), (4, .int v4), (5, .int v5), (6, .int 0)]) rfl ?_
      refine gl_X3_printRows_16 v0 v1 v2 v3 v5 k0 k1 k3 C E FU μ v4 0 _ eq32 ?_
      obtain ⟨x33, ex33, h⟩ := lt_inv h
      obtain ⟨μ34, eμ34, h⟩ := lt_inv h
      rw [← ex33, ← eμ34]
      refine g_aload_n C (i := 0) 0 rfl rfl (dk kX3_printRows 62 rfl) ?_
      refine g_aload_n C (i := 3) 3 rfl rfl (dk kX3_printRows 63 rfl) ?_
      refine g_iconst C (v := 0) (by decide) (dk kX3_printRows 64 rfl) ?_
      obtain ⟨c35, h⟩ := gd_inv h
      refine g_iald C k3 c35 (dk kX3_printRows 65 rfl) ?_
      obtain ⟨μ37, eq36, h⟩ := bd_inv h
      refine g_callV C E (rest := []) 1 (ct_X3_lose k0 eq36) wd_3_131 mm_X3_lose ⟨rfl, by decide, by decide, by decide⟩ rfl (by decide) k0 (by decide) rfl rfl (Nat.le_of_ble_eq_true rfl) (by decide) (dk kX3_printRows 66 rfl) ?_
      obtain ⟨x38, ex38, h⟩ := lt_inv h
      refine g_iinc C (i := 5) (v := x38) (lv' := [(5, .int x38), (0, .ref (za Z v0)), (1, .ref (za Z v1)), (2, .int v2), (3, .ref (za Z v3)), (4, .int x33)]) 5 (dk kX3_printRows 67 rfl) rfl (by rw [ex38]; rfl) (by decide) rfl ?_
      refine g_goto C (tgt := 6) (dk kX3_printRows 68 rfl) (by decide) ?_
      exact g_sub [1, 2, 3, 4, 5, 0] rfl (ih μ37 x33 x38 y h he)
set_option maxRecDepth 100000 in
set_option maxHeartbeats 4000000 in
theorem t_X3_printRows {l : Launch} {Z : ZZ} {X : XX} (μ : Mm) (a0 : Nat) (a1 : Nat) (a2 : Int32) (a3 : Nat) (r : Int32) (μ' : Mm) (k0 : (zk Z a0).1 = 2) (k1 : (zk Z a1).1 = 3) (k3 : (zk Z a3).1 = 8) (h : f_X3_printRows (zk Z) μ a0 a1 a2 a3 = some (r, μ')) (C : Cx l Z false X cX3_printRows RX3 9 (some .int)) (E : Ex Z X 1 0 0 (some (.int r)) Z μ') : G Z X 9 0 0 0 [(0, .ref (za Z a0)), (1, .ref (za Z a1)), (2, .int a2), (3, .ref (za Z a3))] [] μ := by
  unfold f_X3_printRows at h
  refine g_iconst C (v := 0) (by decide) (dk kX3_printRows 0 rfl) ?_
  refine g_istore C (i := 4) (lv' := [(4, .int 0), (0, .ref (za Z a0)), (1, .ref (za Z a1)), (2, .int a2), (3, .ref (za Z a3))]) (dk kX3_printRows 1 rfl) (by decide) rfl ?_
  refine g_iconst C (v := 0) (by decide) (dk kX3_printRows 2 rfl) ?_
  refine g_istore C (i := 5) (lv' := [(5, .int 0), (4, .int 0), (0, .ref (za Z a0)), (1, .ref (za Z a1)), (2, .int a2), (3, .ref (za Z a3))]) (dk kX3_printRows 3 rfl) (by decide) rfl ?_
  obtain ⟨q39, eq39, h⟩ := bd_inv h
  refine g_sub [2, 3, 4, 5, 1, 0] (lv' := [(0, .ref (za Z a0)), (1, .ref (za Z a1)), (2, .int a2), (3, .ref (za Z a3)), (4, .int 0), (5, .int 0)]) rfl ?_
  refine gl_X3_printRows_6 a0 a1 a2 a3 k0 k1 k3 C E.2 FU μ 0 0 _ eq39 ?_
  obtain ⟨x40, ex40, h⟩ := lt_inv h
  obtain ⟨μ41, eμ41, h⟩ := lt_inv h
  rw [← ex40, ← eμ41]
  refine g_iload C (i := 4) 0 rfl (dk kX3_printRows 69 rfl) ?_
  obtain ⟨h8, h9⟩ := Prod.mk.inj (Option.some.inj h)
  subst h8
  subst h9
  exact g_iret C E rfl rfl (Nat.le_refl 0) (Nat.le_refl 0) (dk kX3_printRows 70 rfl)
theorem ct_X3_printRows {l : Launch} {Z : ZZ} {μ : Mm} {a0 : Nat} {a1 : Nat} {a2 : Int32} {a3 : Nat} {r : Int32} {μ' : Mm} (k0 : (zk Z a0).1 = 2) (k1 : (zk Z a1).1 = 3) (k3 : (zk Z a3).1 = 8) (h : f_X3_printRows (zk Z) μ a0 a1 a2 a3 = some (r, μ')) : CtM l Z false yX3_printRows cX3_printRows 9 (some .int) 1 0 0 [.ref (za Z a0), .ref (za Z a1), .int a2, .ref (za Z a3)] μ (some (.int r)) Z μ' := ct_of rfl rfl (Nat.le_of_ble_eq_true rfl) (fun X C E => t_X3_printRows μ a0 a1 a2 a3 r μ' k0 k1 k3 h C E)

def qX3_renew : List (Nat × Instr × Nat) := [(0, .aload_n 0, 1), (1, .getfield 15, 3), (4, .iload_n 1, 1), (5, .iconst 0, 1), (6, .iastore, 1), (7, .aload_n 0, 1), (8, .getfield 19, 3), (11, .iload_n 1, 1), (12, .iconst 0, 1), (13, .iastore, 1), (14, .aload_n 0, 1), (15, .getfield 22, 3), (18, .iload_n 1, 1), (19, .iconst 0, 1), (20, .iastore, 1), (21, .return_, 1)]
theorem kX3_renew : ∀ q ∈ qX3_renew, decode cX3_renew q.1 = .ok q.2 := by decide +kernel
def f_X3_renew (K : Nat → Nat × Nat) (μ : Mm) (a0 : Nat) (a1 : Int32) : Option (Mm) :=
  bd (rf K μ a0 2 8) fun b1 => gd (inb a1 (K b1).2) <| lt1 (sI μ b1 (ix a1) 0) fun μ3 => bd (rf K μ3 a0 3 8) fun b4 => gd (inb a1 (K b4).2) <| lt1 (sI μ3 b4 (ix a1) 0) fun μ6 => bd (rf K μ6 a0 4 8) fun b7 => gd (inb a1 (K b7).2) <| lt1 (sI μ6 b7 (ix a1) 0) fun μ9 => some (μ9)
set_option maxRecDepth 100000 in
set_option maxHeartbeats 4000000 in
theorem t_X3_renew {l : Launch} {Z : ZZ} {X : XX} (μ : Mm) (a0 : Nat) (a1 : Int32) (μ' : Mm) (k0 : (zk Z a0).1 = 2) (h : f_X3_renew (zk Z) μ a0 a1 = some μ') (C : Cx l Z false X cX3_renew RX3 2 none) (E : Ex Z X 0 0 0 none Z μ') : G Z X 2 0 0 0 [(0, .ref (za Z a0)), (1, .int a1)] [] μ := by
  unfold f_X3_renew at h
  refine g_aload_n C (i := 0) 0 rfl rfl (dk kX3_renew 0 rfl) ?_
  obtain ⟨b1, eb1, h⟩ := bd_inv h
  obtain ⟨rb1, kb1⟩ := rf_inv eb1
  refine gR_2_2 C k0 (C.w wd_1_66) rb1 (dk kX3_renew 1 rfl) ?_
  refine g_iload_n C (i := 1) 1 rfl rfl (dk kX3_renew 2 rfl) ?_
  refine g_iconst C (v := 0) (by decide) (dk kX3_renew 3 rfl) ?_
  obtain ⟨c2, h⟩ := gd_inv h
  obtain ⟨μ3, eμ3, h⟩ := lt_inv h
  refine g_iast C kb1 c2 eμ3 (dk kX3_renew 4 rfl) ?_
  refine g_aload_n C (i := 0) 0 rfl rfl (dk kX3_renew 5 rfl) ?_
  obtain ⟨b4, eb4, h⟩ := bd_inv h
  obtain ⟨rb4, kb4⟩ := rf_inv eb4
  refine gR_2_3 C k0 (C.w wd_1_68) rb4 (dk kX3_renew 6 rfl) ?_
  refine g_iload_n C (i := 1) 1 rfl rfl (dk kX3_renew 7 rfl) ?_
  refine g_iconst C (v := 0) (by decide) (dk kX3_renew 8 rfl) ?_
  obtain ⟨c5, h⟩ := gd_inv h
  obtain ⟨μ6, eμ6, h⟩ := lt_inv h
  refine g_iast C kb4 c5 eμ6 (dk kX3_renew 9 rfl) ?_
  refine g_aload_n C (i := 0) 0 rfl rfl (dk kX3_renew 10 rfl) ?_
  obtain ⟨b7, eb7, h⟩ := bd_inv h
  obtain ⟨rb7, kb7⟩ := rf_inv eb7
  refine gR_2_4 C k0 (C.w wd_1_70) rb7 (dk kX3_renew 11 rfl) ?_
  refine g_iload_n C (i := 1) 1 rfl rfl (dk kX3_renew 12 rfl) ?_
  refine g_iconst C (v := 0) (by decide) (dk kX3_renew 13 rfl) ?_
  obtain ⟨c8, h⟩ := gd_inv h
  obtain ⟨μ9, eμ9, h⟩ := lt_inv h
  refine g_iast C kb7 c8 eμ9 (dk kX3_renew 14 rfl) ?_
  have h9 := Option.some.inj h
  subst h9
  exact g_vret C E (Nat.le_refl 0) (Nat.le_refl 0) (dk kX3_renew 15 rfl)
theorem ct_X3_renew {l : Launch} {Z : ZZ} {μ : Mm} {a0 : Nat} {a1 : Int32} {μ' : Mm} (k0 : (zk Z a0).1 = 2) (h : f_X3_renew (zk Z) μ a0 a1 = some μ') : CtM l Z false yX3_renew cX3_renew 2 none 0 0 0 [.ref (za Z a0), .int a1] μ none Z μ' := ct_of rfl rfl (Nat.le_of_ble_eq_true rfl) (fun X C E => t_X3_renew μ a0 a1 μ' k0 h C E)

def qX3_renewAll : List (Nat × Instr × Nat) := [(0, .aload_n 0, 1), (1, .iload_n 1, 1), (2, .putfield 9, 3), (5, .iconst 0, 1), (6, .istore_n 2, 1), (7, .iload_n 2, 1), (8, .bipush 24, 2), (10, .if_icmp .ge 14, 3), (13, .aload_n 0, 1), (14, .iload_n 2, 1), (15, .invokevirtual 34, 3), (18, .iinc 2 1, 3), (21, .goto (-14), 3), (24, .return_, 1)]
theorem kX3_renewAll : ∀ q ∈ qX3_renewAll, decode cX3_renewAll q.1 = .ok q.2 := by decide +kernel
def f_X3_renewAll_l7 (K : Nat → Nat × Nat) (v0 : Nat) : Nat → Mm → Int32 → Option (Mm)
  | 0, _, _ => none
  | n + 1, μ, v2 => if 24 ≤ v2 then (some μ) else (bd (f_X3_renew K μ v0 v2) fun μ4 => lt1 (α := Int32) (v2 + 1) fun x5 => f_X3_renewAll_l7 K v0 n μ4 x5)
def f_X3_renewAll (K : Nat → Nat × Nat) (μ : Mm) (a0 : Nat) (a1 : Int32) : Option (Mm) :=
  lt1 (sI μ a0 0 a1) fun μ1 => bd (f_X3_renewAll_l7 K a0 FU μ1 0) fun q6 => lt1 q6 fun μ7 => some (μ7)
set_option maxRecDepth 100000 in
set_option maxHeartbeats 4000000 in
theorem gl_X3_renewAll_7 {l : Launch} {Z : ZZ} {X : XX} (v0 : Nat) (k0 : (zk Z v0).1 = 2) (C : Cx l Z false X cX3_renewAll RX3 3 none) (E : xR X = rmm 1 0 0) : ∀ (n : Nat) (μ : Mm) (v2 : Int32) (y : Mm), f_X3_renewAll_l7 (zk Z) v0 n μ v2 = some y → G Z X 3 0 0 24 [] [] y → G Z X 3 0 0 7 [(0, .ref (za Z v0)), (2, .int v2)] [] μ := by
  intro n
  induction n with
  | zero => intro μ v2 y h he; unfold f_X3_renewAll_l7 at h; cases h
  | succ n ih =>
    intro μ v2 y h he
    unfold f_X3_renewAll_l7 at h
    refine g_iload_n C (i := 2) 1 rfl rfl (dk kX3_renewAll 5 rfl) ?_
    refine g_bipush C (v := 24) (by decide) (dk kX3_renewAll 6 rfl) ?_
    refine g_icmp_ge C (tgt := 24) (dk kX3_renewAll 7 rfl) (by decide) (fun c2 => ?_) (fun c2 => ?_)
    · replace h := ite_t h c2
      cases h
      exact g_sub [] rfl he
    · replace h := ite_f h c2
      refine g_aload_n C (i := 0) 0 rfl rfl (dk kX3_renewAll 8 rfl) ?_
      refine g_iload_n C (i := 2) 1 rfl rfl (dk kX3_renewAll 9 rfl) ?_
      obtain ⟨μ4, eq3, h⟩ := bd_inv h
      refine g_callV C E (rest := []) 1 (ct_X3_renew k0 eq3) wd_2_125 mm_X3_renew ⟨rfl, by decide, by decide, by decide⟩ rfl (by decide) k0 (by decide) rfl rfl (Nat.le_of_ble_eq_true rfl) (by decide) (dk kX3_renewAll 10 rfl) ?_
      obtain ⟨x5, ex5, h⟩ := lt_inv h
      refine g_iinc C (i := 2) (v := x5) (lv' := [(2, .int x5), (0, .ref (za Z v0))]) 1 (dk kX3_renewAll 11 rfl) rfl (by rw [ex5]; rfl) (by decide) rfl ?_
      refine g_goto C (tgt := 7) (dk kX3_renewAll 12 rfl) (by decide) ?_
      exact g_sub [1, 0] rfl (ih μ4 x5 y h he)
set_option maxRecDepth 100000 in
set_option maxHeartbeats 4000000 in
theorem t_X3_renewAll {l : Launch} {Z : ZZ} {X : XX} (μ : Mm) (a0 : Nat) (a1 : Int32) (μ' : Mm) (k0 : (zk Z a0).1 = 2) (h : f_X3_renewAll (zk Z) μ a0 a1 = some μ') (C : Cx l Z false X cX3_renewAll RX3 3 none) (E : Ex Z X 1 0 0 none Z μ') : G Z X 3 0 0 0 [(0, .ref (za Z a0)), (1, .int a1)] [] μ := by
  unfold f_X3_renewAll at h
  refine g_aload_n C (i := 0) 0 rfl rfl (dk kX3_renewAll 0 rfl) ?_
  refine g_iload_n C (i := 1) 1 rfl rfl (dk kX3_renewAll 1 rfl) ?_
  obtain ⟨μ1, eμ1, h⟩ := lt_inv h
  refine pI_2_0 C k0 (C.w wd_1_62) eμ1 (dk kX3_renewAll 2 rfl) ?_
  refine g_iconst C (v := 0) (by decide) (dk kX3_renewAll 3 rfl) ?_
  refine g_istore_n C (i := 2) (lv' := [(2, .int 0), (0, .ref (za Z a0)), (1, .int a1)]) (dk kX3_renewAll 4 rfl) rfl (by decide) rfl ?_
  obtain ⟨q6, eq6, h⟩ := bd_inv h
  refine g_sub [1, 0] (lv' := [(0, .ref (za Z a0)), (2, .int 0)]) rfl ?_
  refine gl_X3_renewAll_7 a0 k0 C E.2 FU μ1 0 _ eq6 ?_
  obtain ⟨μ7, eμ7, h⟩ := lt_inv h
  rw [← eμ7]
  have h9 := Option.some.inj h
  subst h9
  exact g_vret C E (Nat.le_refl 0) (Nat.le_refl 0) (dk kX3_renewAll 13 rfl)
theorem ct_X3_renewAll {l : Launch} {Z : ZZ} {μ : Mm} {a0 : Nat} {a1 : Int32} {μ' : Mm} (k0 : (zk Z a0).1 = 2) (h : f_X3_renewAll (zk Z) μ a0 a1 = some μ') : CtM l Z false yX3_renewAll cX3_renewAll 3 none 1 0 0 [.ref (za Z a0), .int a1] μ none Z μ' := ct_of rfl rfl (Nat.le_of_ble_eq_true rfl) (fun X C E => t_X3_renewAll μ a0 a1 μ' k0 h C E)

def qX3_takeOver : List (Nat × Instr × Nat) := [(0, .aload_n 0, 1), (1, .aload_n 1, 1), (2, .getfield 9, 3), (5, .putfield 9, 3), (8, .aload_n 0, 1), (9, .aload_n 1, 1), (10, .getfield 25, 3), (13, .putfield 25, 3), (16, .aload_n 1, 1), (17, .getfield 15, 3), (20, .iconst 0, 1), (21, .aload_n 0, 1), (22, .getfield 15, 3), (25, .iconst 0, 1), (26, .bipush 24, 2), (28, .invokestatic 28, 3), (31, .aload_n 1, 1), (32, .getfield 19, 3), (35, .iconst 0, 1), (36, .aload_n 0, 1), (37, .getfield 19, 3), (40, .iconst 0, 1), (41, .bipush 24, 2), (43, .invokestatic 28, 3), (46, .aload_n 1, 1), (47, .getfield 22, 3), (50, .iconst 0, 1), (51, .aload_n 0, 1), (52, .getfield 22, 3), (55, .iconst 0, 1), (56, .bipush 24, 2), (58, .invokestatic 28, 3), (61, .return_, 1)]
theorem kX3_takeOver : ∀ q ∈ qX3_takeOver, decode cX3_takeOver q.1 = .ok q.2 := by decide +kernel
def f_X3_takeOver (K : Nat → Nat × Nat) (μ : Mm) (a0 : Nat) (a1 : Nat) : Option (Mm) :=
  lt1 (sI μ a0 0 (μ.1 a1 0)) fun μ1 => lt1 (sI μ1 a0 1 (μ1.1 a1 1)) fun μ2 => bd (rf K μ2 a1 2 8) fun b3 => bd (rf K μ2 a0 2 8) fun b4 => gd (okc 0 0 24 (K b3).2 (K b4).2) <| lt1 (sIr μ2 b4 (va_cpy (μ2.1 b3) (μ2.1 b4) (ix 0) (ix 0) (ix 24))) fun μ6 => bd (rf K μ6 a1 3 8) fun b7 => bd (rf K μ6 a0 3 8) fun b8 => gd (okc 0 0 24 (K b7).2 (K b8).2) <| lt1 (sIr μ6 b8 (va_cpy (μ6.1 b7) (μ6.1 b8) (ix 0) (ix 0) (ix 24))) fun μ10 => bd (rf K μ10 a1 4 8) fun b11 => bd (rf K μ10 a0 4 8) fun b12 => gd (okc 0 0 24 (K b11).2 (K b12).2) <| lt1 (sIr μ10 b12 (va_cpy (μ10.1 b11) (μ10.1 b12) (ix 0) (ix 0) (ix 24))) fun μ14 => some (μ14)
set_option maxRecDepth 100000 in
set_option maxHeartbeats 4000000 in
theorem t_X3_takeOver {l : Launch} {Z : ZZ} {X : XX} (μ : Mm) (a0 : Nat) (a1 : Nat) (μ' : Mm) (k0 : (zk Z a0).1 = 2) (k1 : (zk Z a1).1 = 2) (h : f_X3_takeOver (zk Z) μ a0 a1 = some μ') (C : Cx l Z false X cX3_takeOver RX3 2 none) (E : Ex Z X 1 0 0 none Z μ') : G Z X 2 0 0 0 [(0, .ref (za Z a0)), (1, .ref (za Z a1))] [] μ := by
  unfold f_X3_takeOver at h
  refine g_aload_n C (i := 0) 0 rfl rfl (dk kX3_takeOver 0 rfl) ?_
  refine g_aload_n C (i := 1) 1 rfl rfl (dk kX3_takeOver 1 rfl) ?_
  refine gI_2_0 C k1 (C.w wd_1_62) (dk kX3_takeOver 2 rfl) ?_
  obtain ⟨μ1, eμ1, h⟩ := lt_inv h
  refine pI_2_0 C k0 (C.w wd_1_62) eμ1 (dk kX3_takeOver 3 rfl) ?_
  refine g_aload_n C (i := 0) 0 rfl rfl (dk kX3_takeOver 4 rfl) ?_
  refine g_aload_n C (i := 1) 1 rfl rfl (dk kX3_takeOver 5 rfl) ?_
  refine gI_2_1 C k1 (C.w wd_1_64) (dk kX3_takeOver 6 rfl) ?_
  obtain ⟨μ2, eμ2, h⟩ := lt_inv h
  refine pI_2_1 C k0 (C.w wd_1_64) eμ2 (dk kX3_takeOver 7 rfl) ?_
  refine g_aload_n C (i := 1) 1 rfl rfl (dk kX3_takeOver 8 rfl) ?_
  obtain ⟨b3, eb3, h⟩ := bd_inv h
  obtain ⟨rb3, kb3⟩ := rf_inv eb3
  refine gR_2_2 C k1 (C.w wd_1_66) rb3 (dk kX3_takeOver 9 rfl) ?_
  refine g_iconst C (v := 0) (by decide) (dk kX3_takeOver 10 rfl) ?_
  refine g_aload_n C (i := 0) 0 rfl rfl (dk kX3_takeOver 11 rfl) ?_
  obtain ⟨b4, eb4, h⟩ := bd_inv h
  obtain ⟨rb4, kb4⟩ := rf_inv eb4
  refine gR_2_2 C k0 (C.w wd_1_66) rb4 (dk kX3_takeOver 12 rfl) ?_
  refine g_iconst C (v := 0) (by decide) (dk kX3_takeOver 13 rfl) ?_
  refine g_bipush C (v := 24) (by decide) (dk kX3_takeOver 14 rfl) ?_
  obtain ⟨c5, h⟩ := gd_inv h
  obtain ⟨μ6, eμ6, h⟩ := lt_inv h
  refine g_copy C E.2 kb3 kb4 c5 (by decide) (Nat.le_of_ble_eq_true rfl) (C.w wd_2_99) (C.w wd_1_98) (C.w wd_1_97) (C.w wd_1_7) eμ6 (dk kX3_takeOver 15 rfl) ?_
  refine g_aload_n C (i := 1) 1 rfl rfl (dk kX3_takeOver 16 rfl) ?_
  obtain ⟨b7, eb7, h⟩ := bd_inv h
  obtain ⟨rb7, kb7⟩ := rf_inv eb7
  refine gR_2_3 C k1 (C.w wd_1_68) rb7 (dk kX3_takeOver 17 rfl) ?_
  refine g_iconst C (v := 0) (by decide) (dk kX3_takeOver 18 rfl) ?_
  refine g_aload_n C (i := 0) 0 rfl rfl (dk kX3_takeOver 19 rfl) ?_
  obtain ⟨b8, eb8, h⟩ := bd_inv h
  obtain ⟨rb8, kb8⟩ := rf_inv eb8
  refine gR_2_3 C k0 (C.w wd_1_68) rb8 (dk kX3_takeOver 20 rfl) ?_
  refine g_iconst C (v := 0) (by decide) (dk kX3_takeOver 21 rfl) ?_
  refine g_bipush C (v := 24) (by decide) (dk kX3_takeOver 22 rfl) ?_
  obtain ⟨c9, h⟩ := gd_inv h
  obtain ⟨μ10, eμ10, h⟩ := lt_inv h
  refine g_copy C E.2 kb7 kb8 c9 (by decide) (Nat.le_of_ble_eq_true rfl) (C.w wd_2_99) (C.w wd_1_98) (C.w wd_1_97) (C.w wd_1_7) eμ10 (dk kX3_takeOver 23 rfl) ?_
  refine g_aload_n C (i := 1) 1 rfl rfl (dk kX3_takeOver 24 rfl) ?_
  obtain ⟨b11, eb11, h⟩ := bd_inv h
  obtain ⟨rb11, kb11⟩ := rf_inv eb11
  refine gR_2_4 C k1 (C.w wd_1_70) rb11 (dk kX3_takeOver 25 rfl) ?_
  refine g_iconst C (v := 0) (by decide) (dk kX3_takeOver 26 rfl) ?_
  refine g_aload_n C (i := 0) 0 rfl rfl (dk kX3_takeOver 27 rfl) ?_
  obtain ⟨b12, eb12, h⟩ := bd_inv h
  obtain ⟨rb12, kb12⟩ := rf_inv eb12
  refine gR_2_4 C k0 (C.w wd_1_70) rb12 (dk kX3_takeOver 28 rfl) ?_
  refine g_iconst C (v := 0) (by decide) (dk kX3_takeOver 29 rfl) ?_
  refine g_bipush C (v := 24) (by decide) (dk kX3_takeOver 30 rfl) ?_
  obtain ⟨c13, h⟩ := gd_inv h
  obtain ⟨μ14, eμ14, h⟩ := lt_inv h
  refine g_copy C E.2 kb11 kb12 c13 (by decide) (Nat.le_of_ble_eq_true rfl) (C.w wd_2_99) (C.w wd_1_98) (C.w wd_1_97) (C.w wd_1_7) eμ14 (dk kX3_takeOver 31 rfl) ?_
  have h9 := Option.some.inj h
  subst h9
  exact g_vret C E (Nat.le_refl 0) (Nat.le_refl 0) (dk kX3_takeOver 32 rfl)
theorem ct_X3_takeOver {l : Launch} {Z : ZZ} {μ : Mm} {a0 : Nat} {a1 : Nat} {μ' : Mm} (k0 : (zk Z a0).1 = 2) (k1 : (zk Z a1).1 = 2) (h : f_X3_takeOver (zk Z) μ a0 a1 = some μ') : CtM l Z false yX3_takeOver cX3_takeOver 2 none 1 0 0 [.ref (za Z a0), .ref (za Z a1)] μ none Z μ' := ct_of rfl rfl (Nat.le_of_ble_eq_true rfl) (fun X C E => t_X3_takeOver μ a0 a1 μ' k0 k1 h C E)

def qX3_takePart : List (Nat × Instr × Nat) := [(0, .aload_n 0, 1), (1, .iload_n 3, 1), (2, .putfield 9, 3), (5, .aload_n 1, 1), (6, .getfield 15, 3), (9, .iload_n 2, 1), (10, .aload_n 0, 1), (11, .getfield 15, 3), (14, .iconst 0, 1), (15, .iload_n 3, 1), (16, .invokestatic 28, 3), (19, .aload_n 1, 1), (20, .getfield 19, 3), (23, .iload_n 2, 1), (24, .aload_n 0, 1), (25, .getfield 19, 3), (28, .iconst 0, 1), (29, .iload_n 3, 1), (30, .invokestatic 28, 3), (33, .return_, 1)]
theorem kX3_takePart : ∀ q ∈ qX3_takePart, decode cX3_takePart q.1 = .ok q.2 := by decide +kernel
def f_X3_takePart (K : Nat → Nat × Nat) (μ : Mm) (a0 : Nat) (a1 : Nat) (a2 : Int32) (a3 : Int32) : Option (Mm) :=
  lt1 (sI μ a0 0 a3) fun μ1 => bd (rf K μ1 a1 2 8) fun b2 => bd (rf K μ1 a0 2 8) fun b3 => gd (okc a2 0 a3 (K b2).2 (K b3).2) <| lt1 (sIr μ1 b3 (va_cpy (μ1.1 b2) (μ1.1 b3) (ix a2) (ix 0) (ix a3))) fun μ5 => bd (rf K μ5 a1 3 8) fun b6 => bd (rf K μ5 a0 3 8) fun b7 => gd (okc a2 0 a3 (K b6).2 (K b7).2) <| lt1 (sIr μ5 b7 (va_cpy (μ5.1 b6) (μ5.1 b7) (ix a2) (ix 0) (ix a3))) fun μ9 => some (μ9)
set_option maxRecDepth 100000 in
set_option maxHeartbeats 4000000 in
theorem t_X3_takePart {l : Launch} {Z : ZZ} {X : XX} (μ : Mm) (a0 : Nat) (a1 : Nat) (a2 : Int32) (a3 : Int32) (μ' : Mm) (k0 : (zk Z a0).1 = 2) (k1 : (zk Z a1).1 = 2) (h : f_X3_takePart (zk Z) μ a0 a1 a2 a3 = some μ') (C : Cx l Z false X cX3_takePart RX3 4 none) (E : Ex Z X 1 0 0 none Z μ') : G Z X 4 0 0 0 [(0, .ref (za Z a0)), (1, .ref (za Z a1)), (2, .int a2), (3, .int a3)] [] μ := by
  unfold f_X3_takePart at h
  refine g_aload_n C (i := 0) 0 rfl rfl (dk kX3_takePart 0 rfl) ?_
  refine g_iload_n C (i := 3) 3 rfl rfl (dk kX3_takePart 1 rfl) ?_
  obtain ⟨μ1, eμ1, h⟩ := lt_inv h
  refine pI_2_0 C k0 (C.w wd_1_62) eμ1 (dk kX3_takePart 2 rfl) ?_
  refine g_aload_n C (i := 1) 1 rfl rfl (dk kX3_takePart 3 rfl) ?_
  obtain ⟨b2, eb2, h⟩ := bd_inv h
  obtain ⟨rb2, kb2⟩ := rf_inv eb2
  refine gR_2_2 C k1 (C.w wd_1_66) rb2 (dk kX3_takePart 4 rfl) ?_
  refine g_iload_n C (i := 2) 2 rfl rfl (dk kX3_takePart 5 rfl) ?_
  refine g_aload_n C (i := 0) 0 rfl rfl (dk kX3_takePart 6 rfl) ?_
  obtain ⟨b3, eb3, h⟩ := bd_inv h
  obtain ⟨rb3, kb3⟩ := rf_inv eb3
  refine gR_2_2 C k0 (C.w wd_1_66) rb3 (dk kX3_takePart 7 rfl) ?_
  refine g_iconst C (v := 0) (by decide) (dk kX3_takePart 8 rfl) ?_
  refine g_iload_n C (i := 3) 3 rfl rfl (dk kX3_takePart 9 rfl) ?_
  obtain ⟨c4, h⟩ := gd_inv h
  obtain ⟨μ5, eμ5, h⟩ := lt_inv h
  refine g_copy C E.2 kb2 kb3 c4 (by decide) (Nat.le_of_ble_eq_true rfl) (C.w wd_2_99) (C.w wd_1_98) (C.w wd_1_97) (C.w wd_1_7) eμ5 (dk kX3_takePart 10 rfl) ?_
  refine g_aload_n C (i := 1) 1 rfl rfl (dk kX3_takePart 11 rfl) ?_
  obtain ⟨b6, eb6, h⟩ := bd_inv h
  obtain ⟨rb6, kb6⟩ := rf_inv eb6
  refine gR_2_3 C k1 (C.w wd_1_68) rb6 (dk kX3_takePart 12 rfl) ?_
  refine g_iload_n C (i := 2) 2 rfl rfl (dk kX3_takePart 13 rfl) ?_
  refine g_aload_n C (i := 0) 0 rfl rfl (dk kX3_takePart 14 rfl) ?_
  obtain ⟨b7, eb7, h⟩ := bd_inv h
  obtain ⟨rb7, kb7⟩ := rf_inv eb7
  refine gR_2_3 C k0 (C.w wd_1_68) rb7 (dk kX3_takePart 15 rfl) ?_
  refine g_iconst C (v := 0) (by decide) (dk kX3_takePart 16 rfl) ?_
  refine g_iload_n C (i := 3) 3 rfl rfl (dk kX3_takePart 17 rfl) ?_
  obtain ⟨c8, h⟩ := gd_inv h
  obtain ⟨μ9, eμ9, h⟩ := lt_inv h
  refine g_copy C E.2 kb6 kb7 c8 (by decide) (Nat.le_of_ble_eq_true rfl) (C.w wd_2_99) (C.w wd_1_98) (C.w wd_1_97) (C.w wd_1_7) eμ9 (dk kX3_takePart 18 rfl) ?_
  have h9 := Option.some.inj h
  subst h9
  exact g_vret C E (Nat.le_refl 0) (Nat.le_refl 0) (dk kX3_takePart 19 rfl)
theorem ct_X3_takePart {l : Launch} {Z : ZZ} {μ : Mm} {a0 : Nat} {a1 : Nat} {a2 : Int32} {a3 : Int32} {μ' : Mm} (k0 : (zk Z a0).1 = 2) (k1 : (zk Z a1).1 = 2) (h : f_X3_takePart (zk Z) μ a0 a1 a2 a3 = some μ') : CtM l Z false yX3_takePart cX3_takePart 4 none 1 0 0 [.ref (za Z a0), .ref (za Z a1), .int a2, .int a3] μ none Z μ' := ct_of rfl rfl (Nat.le_of_ble_eq_true rfl) (fun X C E => t_X3_takePart μ a0 a1 a2 a3 μ' k0 k1 h C E)

def qX3_wearSum : List (Nat × Instr × Nat) := [(0, .iconst 0, 1), (1, .istore_n 3, 1), (2, .iload_n 1, 1), (3, .istore 4, 2), (5, .iload 4, 2), (7, .iload_n 2, 1), (8, .if_icmp .gt 19, 3), (11, .iload_n 3, 1), (12, .aload_n 0, 1), (13, .getfield 19, 3), (16, .iload 4, 2), (18, .iaload, 1), (19, .iadd, 1), (20, .istore_n 3, 1), (21, .iinc 4 1, 3), (24, .goto (-19), 3), (27, .iload_n 3, 1), (28, .ireturn, 1)]
theorem kX3_wearSum : ∀ q ∈ qX3_wearSum, decode cX3_wearSum q.1 = .ok q.2 := by decide +kernel
def f_X3_wearSum_l5 (K : Nat → Nat × Nat) (μ : Mm) (v0 : Nat) (v2 : Int32) : Nat → Int32 → Int32 → Option (Int32)
  | 0, _, _ => none
  | n + 1, v3, v4 => if v2 < v4 then (some v3) else (bd (rf K μ v0 3 8) fun b2 => gd (inb v4 (K b2).2) <| lt1 (α := Int32) (v3 + (μ.1 b2 (ix v4))) fun x4 => lt1 (α := Int32) (v4 + 1) fun x5 => f_X3_wearSum_l5 K μ v0 v2 n x4 x5)
def f_X3_wearSum (K : Nat → Nat × Nat) (μ : Mm) (a0 : Nat) (a1 : Int32) (a2 : Int32) : Option (Int32) :=
  bd (f_X3_wearSum_l5 K μ a0 a2 FU 0 a1) fun q6 => lt1 q6 fun x7 => some x7
set_option maxRecDepth 100000 in
set_option maxHeartbeats 4000000 in
theorem gl_X3_wearSum_5 {l : Launch} {Z : ZZ} {X : XX} (v0 : Nat) (v2 : Int32) (k0 : (zk Z v0).1 = 2) (μ : Mm) (C : Cx l Z false X cX3_wearSum RX3 5 (some .int)) (E : xR X = rmm 0 0 0) : ∀ (n : Nat) (v3 : Int32) (v4 : Int32) (y : Int32), f_X3_wearSum_l5 (zk Z) μ v0 v2 n v3 v4 = some y → G Z X 5 0 0 27 [(3, .int y)] [] (μ) → G Z X 5 0 0 5 [(0, .ref (za Z v0)), (2, .int v2), (3, .int v3), (4, .int v4)] [] μ := by
  intro n
  induction n with
  | zero => intro v3 v4 y h he; unfold f_X3_wearSum_l5 at h; cases h
  | succ n ih =>
    intro v3 v4 y h he
    unfold f_X3_wearSum_l5 at h
    refine g_iload C (i := 4) 3 rfl (dk kX3_wearSum 4 rfl) ?_
    refine g_iload_n C (i := 2) 1 rfl rfl (dk kX3_wearSum 5 rfl) ?_
    refine g_icmp_gt C (tgt := 27) (dk kX3_wearSum 6 rfl) (by decide) (fun c1 => ?_) (fun c1 => ?_)
    · replace h := ite_t h c1
      cases h
      exact g_sub [2] rfl he
    · replace h := ite_f h c1
      refine g_iload_n C (i := 3) 2 rfl rfl (dk kX3_wearSum 7 rfl) ?_
      refine g_aload_n C (i := 0) 0 rfl rfl (dk kX3_wearSum 8 rfl) ?_
      obtain ⟨b2, eb2, h⟩ := bd_inv h
      obtain ⟨rb2, kb2⟩ := rf_inv eb2
      refine gR_2_3 C k0 (C.w wd_1_68) rb2 (dk kX3_wearSum 9 rfl) ?_
      refine g_iload C (i := 4) 3 rfl (dk kX3_wearSum 10 rfl) ?_
      obtain ⟨c3, h⟩ := gd_inv h
      refine g_iald C kb2 c3 (dk kX3_wearSum 11 rfl) ?_
      refine g_iadd C (dk kX3_wearSum 12 rfl) ?_
      obtain ⟨x4, ex4, h⟩ := lt_inv h
      refine g_nmi ex4 ?_
      refine g_istore_n C (i := 3) (lv' := [(3, .int x4), (0, .ref (za Z v0)), (2, .int v2), (4, .int v4)]) (dk kX3_wearSum 13 rfl) rfl (by decide) rfl ?_
      obtain ⟨x5, ex5, h⟩ := lt_inv h
      refine g_iinc C (i := 4) (v := x5) (lv' := [(4, .int x5), (3, .int x4), (0, .ref (za Z v0)), (2, .int v2)]) 3 (dk kX3_wearSum 14 rfl) rfl (by rw [ex5]; rfl) (by decide) rfl ?_
      refine g_goto C (tgt := 5) (dk kX3_wearSum 15 rfl) (by decide) ?_
      exact g_sub [2, 3, 1, 0] rfl (ih x4 x5 y h he)
set_option maxRecDepth 100000 in
set_option maxHeartbeats 4000000 in
theorem t_X3_wearSum {l : Launch} {Z : ZZ} {X : XX} (μ : Mm) (a0 : Nat) (a1 : Int32) (a2 : Int32) (r : Int32) (k0 : (zk Z a0).1 = 2) (h : f_X3_wearSum (zk Z) μ a0 a1 a2 = some r) (C : Cx l Z false X cX3_wearSum RX3 5 (some .int)) (E : Ex Z X 0 0 0 (some (.int r)) Z μ) : G Z X 5 0 0 0 [(0, .ref (za Z a0)), (1, .int a1), (2, .int a2)] [] μ := by
  unfold f_X3_wearSum at h
  refine g_iconst C (v := 0) (by decide) (dk kX3_wearSum 0 rfl) ?_
  refine g_istore_n C (i := 3) (lv' := [(3, .int 0), (0, .ref (za Z a0)), (1, .int a1), (2, .int a2)]) (dk kX3_wearSum 1 rfl) rfl (by decide) rfl ?_
  refine g_iload_n C (i := 1) 2 rfl rfl (dk kX3_wearSum 2 rfl) ?_
  refine g_istore C (i := 4) (lv' := [(4, .int a1), (3, .int 0), (0, .ref (za Z a0)), (1, .int a1), (2, .int a2)]) (dk kX3_wearSum 3 rfl) (by decide) rfl ?_
  obtain ⟨q6, eq6, h⟩ := bd_inv h
  refine g_sub [2, 4, 1, 0] (lv' := [(0, .ref (za Z a0)), (2, .int a2), (3, .int 0), (4, .int a1)]) rfl ?_
  refine gl_X3_wearSum_5 a0 a2 k0 μ C E.2 FU 0 a1 _ eq6 ?_
  obtain ⟨x7, ex7, h⟩ := lt_inv h
  rw [← ex7]
  refine g_iload_n C (i := 3) 0 rfl rfl (dk kX3_wearSum 16 rfl) ?_
  have h9 := Option.some.inj h
  subst h9
  exact g_iret C E rfl rfl (Nat.le_refl 0) (Nat.le_refl 0) (dk kX3_wearSum 17 rfl)
theorem ct_X3_wearSum {l : Launch} {Z : ZZ} {μ : Mm} {a0 : Nat} {a1 : Int32} {a2 : Int32} {r : Int32} (k0 : (zk Z a0).1 = 2) (h : f_X3_wearSum (zk Z) μ a0 a1 a2 = some r) : CtM l Z false yX3_wearSum cX3_wearSum 5 (some .int) 0 0 0 [.ref (za Z a0), .int a1, .int a2] μ (some (.int r)) Z μ := ct_of rfl rfl (Nat.le_of_ble_eq_true rfl) (fun X C E => t_X3_wearSum μ a0 a1 a2 r k0 h C E)

def qX4_allColumns : List (Nat × Instr × Nat) := [(0, .iconst 1, 1), (1, .aload_n 0, 1), (2, .getfield 9, 3), (5, .ishl, 1), (6, .iconst 1, 1), (7, .isub, 1), (8, .ireturn, 1)]
theorem kX4_allColumns : ∀ q ∈ qX4_allColumns, decode cX4_allColumns q.1 = .ok q.2 := by decide +kernel
def f_X4_allColumns (K : Nat → Nat × Nat) (μ : Mm) (a0 : Nat) : Option (Int32) :=
  some ((1 <<< ((μ.1 a0 0) &&& 31)) - 1)
set_option maxRecDepth 100000 in
set_option maxHeartbeats 4000000 in
theorem t_X4_allColumns {l : Launch} {Z : ZZ} {X : XX} (μ : Mm) (a0 : Nat) (r : Int32) (k0 : (zk Z a0).1 = 3) (h : f_X4_allColumns (zk Z) μ a0 = some r) (C : Cx l Z false X cX4_allColumns RX4 1 (some .int)) (E : Ex Z X 0 0 0 (some (.int r)) Z μ) : G Z X 1 0 0 0 [(0, .ref (za Z a0))] [] μ := by
  unfold f_X4_allColumns at h
  refine g_iconst C (v := 1) (by decide) (dk kX4_allColumns 0 rfl) ?_
  refine g_aload_n C (i := 0) 0 rfl rfl (dk kX4_allColumns 1 rfl) ?_
  refine gI_3_0 C k0 (C.w wd_1_104) (dk kX4_allColumns 2 rfl) ?_
  refine g_ishl C (dk kX4_allColumns 3 rfl) ?_
  refine g_iconst C (v := 1) (by decide) (dk kX4_allColumns 4 rfl) ?_
  refine g_isub C (dk kX4_allColumns 5 rfl) ?_
  have h9 := Option.some.inj h
  subst h9
  exact g_iret C E rfl rfl (Nat.le_refl 0) (Nat.le_refl 0) (dk kX4_allColumns 6 rfl)
theorem ct_X4_allColumns {l : Launch} {Z : ZZ} {μ : Mm} {a0 : Nat} {r : Int32} (k0 : (zk Z a0).1 = 3) (h : f_X4_allColumns (zk Z) μ a0 = some r) : CtM l Z false yX4_allColumns cX4_allColumns 1 (some .int) 0 0 0 [.ref (za Z a0)] μ (some (.int r)) Z μ := ct_of rfl rfl (Nat.le_of_ble_eq_true rfl) (fun X C E => t_X4_allColumns μ a0 r k0 h C E)

def qX4_blackCells : List (Nat × Instr × Nat) := [(0, .iconst 0, 1), (1, .istore_n 1, 1), (2, .iconst 0, 1), (3, .istore_n 2, 1), (4, .iload_n 2, 1), (5, .bipush 6, 2), (7, .if_icmp .ge 21, 3), (10, .iload_n 1, 1), (11, .aload_n 0, 1), (12, .getfield 18, 3), (15, .iload_n 2, 1), (16, .iaload, 1), (17, .invokestatic 34, 3), (20, .iadd, 1), (21, .istore_n 1, 1), (22, .iinc 2 1, 3), (25, .goto (-21), 3), (28, .iload_n 1, 1), (29, .ireturn, 1)]
theorem kX4_blackCells : ∀ q ∈ qX4_blackCells, decode cX4_blackCells q.1 = .ok q.2 := by decide +kernel
def f_X4_blackCells_l4 (K : Nat → Nat × Nat) (μ : Mm) (v0 : Nat) : Nat → Int32 → Int32 → Option (Int32)
  | 0, _, _ => none
  | n + 1, v1, v2 => if 6 ≤ v2 then (some v1) else (bd (rf K μ v0 4 8) fun b2 => gd (inb v2 (K b2).2) <| bd (f_J6_bitCount_0f7a4 (μ.1 b2 (ix v2))) fun x5 => lt1 (α := Int32) (v1 + x5) fun x6 => lt1 (α := Int32) (v2 + 1) fun x7 => f_X4_blackCells_l4 K μ v0 n x6 x7)
def f_X4_blackCells (K : Nat → Nat × Nat) (μ : Mm) (a0 : Nat) : Option (Int32) :=
  bd (f_X4_blackCells_l4 K μ a0 FU 0 0) fun q8 => lt1 q8 fun x9 => some x9
set_option maxRecDepth 100000 in
set_option maxHeartbeats 4000000 in
theorem gl_X4_blackCells_4 {l : Launch} {Z : ZZ} {X : XX} (v0 : Nat) (k0 : (zk Z v0).1 = 3) (μ : Mm) (C : Cx l Z false X cX4_blackCells RX4 3 (some .int)) (E : xR X = rmm 1 0 0) : ∀ (n : Nat) (v1 : Int32) (v2 : Int32) (y : Int32), f_X4_blackCells_l4 (zk Z) μ v0 n v1 v2 = some y → G Z X 3 0 0 28 [(1, .int y)] [] (μ) → G Z X 3 0 0 4 [(0, .ref (za Z v0)), (1, .int v1), (2, .int v2)] [] μ := by
  intro n
  induction n with
  | zero => intro v1 v2 y h he; unfold f_X4_blackCells_l4 at h; cases h
  | succ n ih =>
    intro v1 v2 y h he
    unfold f_X4_blackCells_l4 at h
    refine g_iload_n C (i := 2) 2 rfl rfl (dk kX4_blackCells 4 rfl) ?_
    refine g_bipush C (v := 6) (by decide) (dk kX4_blackCells 5 rfl) ?_
    refine g_icmp_ge C (tgt := 28) (dk kX4_blackCells 6 rfl) (by decide) (fun c1 => ?_) (fun c1 => ?_)
    · replace h := ite_t h c1
      cases h
      exact g_sub [1] rfl he
    · replace h := ite_f h c1
      refine g_iload_n C (i := 1) 1 rfl rfl (dk kX4_blackCells 7 rfl) ?_
      refine g_aload_n C (i := 0) 0 rfl rfl (dk kX4_blackCells 8 rfl) ?_
      obtain ⟨b2, eb2, h⟩ := bd_inv h
      obtain ⟨rb2, kb2⟩ := rf_inv eb2
      refine gR_3_4 C k0 (C.w wd_1_114) rb2 (dk kX4_blackCells 9 rfl) ?_
      refine g_iload_n C (i := 2) 2 rfl rfl (dk kX4_blackCells 10 rfl) ?_
      obtain ⟨c3, h⟩ := gd_inv h
      refine g_iald C kb2 c3 (dk kX4_blackCells 11 rfl) ?_
      obtain ⟨x5, eq4, h⟩ := bd_inv h
      refine g_callS C E (rest := [.int v1]) 1 (ct_J6_bitCount_0f7a4  eq4) wd_3_98 mm_J6_bitCount_0f7a4 ⟨by decide, by decide, by decide⟩ rfl (by decide) rfl (Nat.le_of_ble_eq_true rfl) (by decide) (dk kX4_blackCells 12 rfl) ?_
      refine g_iadd C (dk kX4_blackCells 13 rfl) ?_
      obtain ⟨x6, ex6, h⟩ := lt_inv h
      refine g_nmi ex6 ?_
      refine g_istore_n C (i := 1) (lv' := [(1, .int x6), (0, .ref (za Z v0)), (2, .int v2)]) (dk kX4_blackCells 14 rfl) rfl (by decide) rfl ?_
      obtain ⟨x7, ex7, h⟩ := lt_inv h
      refine g_iinc C (i := 2) (v := x7) (lv' := [(2, .int x7), (1, .int x6), (0, .ref (za Z v0))]) 2 (dk kX4_blackCells 15 rfl) rfl (by rw [ex7]; rfl) (by decide) rfl ?_
      refine g_goto C (tgt := 4) (dk kX4_blackCells 16 rfl) (by decide) ?_
      exact g_sub [2, 1, 0] rfl (ih x6 x7 y h he)
set_option maxRecDepth 100000 in
set_option maxHeartbeats 4000000 in
theorem t_X4_blackCells {l : Launch} {Z : ZZ} {X : XX} (μ : Mm) (a0 : Nat) (r : Int32) (k0 : (zk Z a0).1 = 3) (h : f_X4_blackCells (zk Z) μ a0 = some r) (C : Cx l Z false X cX4_blackCells RX4 3 (some .int)) (E : Ex Z X 1 0 0 (some (.int r)) Z μ) : G Z X 3 0 0 0 [(0, .ref (za Z a0))] [] μ := by
  unfold f_X4_blackCells at h
  refine g_iconst C (v := 0) (by decide) (dk kX4_blackCells 0 rfl) ?_
  refine g_istore_n C (i := 1) (lv' := [(1, .int 0), (0, .ref (za Z a0))]) (dk kX4_blackCells 1 rfl) rfl (by decide) rfl ?_
  refine g_iconst C (v := 0) (by decide) (dk kX4_blackCells 2 rfl) ?_
  refine g_istore_n C (i := 2) (lv' := [(2, .int 0), (1, .int 0), (0, .ref (za Z a0))]) (dk kX4_blackCells 3 rfl) rfl (by decide) rfl ?_
  obtain ⟨q8, eq8, h⟩ := bd_inv h
  refine g_sub [2, 1, 0] (lv' := [(0, .ref (za Z a0)), (1, .int 0), (2, .int 0)]) rfl ?_
  refine gl_X4_blackCells_4 a0 k0 μ C E.2 FU 0 0 _ eq8 ?_
  obtain ⟨x9, ex9, h⟩ := lt_inv h
  rw [← ex9]
  refine g_iload_n C (i := 1) 0 rfl rfl (dk kX4_blackCells 17 rfl) ?_
  have h9 := Option.some.inj h
  subst h9
  exact g_iret C E rfl rfl (Nat.le_refl 0) (Nat.le_refl 0) (dk kX4_blackCells 18 rfl)
theorem ct_X4_blackCells {l : Launch} {Z : ZZ} {μ : Mm} {a0 : Nat} {r : Int32} (k0 : (zk Z a0).1 = 3) (h : f_X4_blackCells (zk Z) μ a0 = some r) : CtM l Z false yX4_blackCells cX4_blackCells 3 (some .int) 1 0 0 [.ref (za Z a0)] μ (some (.int r)) Z μ := ct_of rfl rfl (Nat.le_of_ble_eq_true rfl) (fun X C E => t_X4_blackCells μ a0 r k0 h C E)

def qX4_emptyColumns : List (Nat × Instr × Nat) := [(0, .iconst 0, 1), (1, .istore_n 1, 1), (2, .iconst 0, 1), (3, .istore_n 2, 1), (4, .iload_n 2, 1), (5, .bipush 6, 2), (7, .if_icmp .ge 18, 3), (10, .iload_n 1, 1), (11, .aload_n 0, 1), (12, .getfield 18, 3), (15, .iload_n 2, 1), (16, .iaload, 1), (17, .ior, 1), (18, .istore_n 1, 1), (19, .iinc 2 1, 3), (22, .goto (-18), 3), (25, .aload_n 0, 1), (26, .invokevirtual 40, 3), (29, .iload_n 1, 1), (30, .iconst (-1), 1), (31, .ixor, 1), (32, .iand, 1), (33, .ireturn, 1)]
theorem kX4_emptyColumns : ∀ q ∈ qX4_emptyColumns, decode cX4_emptyColumns q.1 = .ok q.2 := by decide +kernel
def f_X4_emptyColumns_l4 (K : Nat → Nat × Nat) (μ : Mm) (v0 : Nat) : Nat → Int32 → Int32 → Option (Int32)
  | 0, _, _ => none
  | n + 1, v1, v2 => if 6 ≤ v2 then (some v1) else (bd (rf K μ v0 4 8) fun b2 => gd (inb v2 (K b2).2) <| lt1 (α := Int32) (v1 ||| (μ.1 b2 (ix v2))) fun x4 => lt1 (α := Int32) (v2 + 1) fun x5 => f_X4_emptyColumns_l4 K μ v0 n x4 x5)
def f_X4_emptyColumns (K : Nat → Nat × Nat) (μ : Mm) (a0 : Nat) : Option (Int32) :=
  bd (f_X4_emptyColumns_l4 K μ a0 FU 0 0) fun q6 => lt1 q6 fun x7 => bd (f_X4_allColumns K μ a0) fun x9 => some (x9 &&& (x7 ^^^ (-1)))
set_option maxRecDepth 100000 in
set_option maxHeartbeats 4000000 in
theorem gl_X4_emptyColumns_4 {l : Launch} {Z : ZZ} {X : XX} (v0 : Nat) (k0 : (zk Z v0).1 = 3) (μ : Mm) (C : Cx l Z false X cX4_emptyColumns RX4 3 (some .int)) (E : xR X = rmm 1 0 0) : ∀ (n : Nat) (v1 : Int32) (v2 : Int32) (y : Int32), f_X4_emptyColumns_l4 (zk Z) μ v0 n v1 v2 = some y → G Z X 3 0 0 25 [(0, .ref (za Z v0)), (1, .int y)] [] (μ) → G Z X 3 0 0 4 [(0, .ref (za Z v0)), (1, .int v1), (2, .int v2)] [] μ := by
  intro n
  induction n with
  | zero => intro v1 v2 y h he; unfold f_X4_emptyColumns_l4 at h; cases h
  | succ n ih =>
    intro v1 v2 y h he
    unfold f_X4_emptyColumns_l4 at h
    refine g_iload_n C (i := 2) 2 rfl rfl (dk kX4_emptyColumns 4 rfl) ?_
    refine g_bipush C (v := 6) (by decide) (dk kX4_emptyColumns 5 rfl) ?_
    refine g_icmp_ge C (tgt := 25) (dk kX4_emptyColumns 6 rfl) (by decide) (fun c1 => ?_) (fun c1 => ?_)
    · replace h := ite_t h c1
      cases h
      exact g_sub [0, 1] rfl he
    · replace h := ite_f h c1
      refine g_iload_n C (i := 1) 1 rfl rfl (dk kX4_emptyColumns 7 rfl) ?_
      refine g_aload_n C (i := 0) 0 rfl rfl (dk kX4_emptyColumns 8 rfl) ?_
      obtain ⟨b2, eb2, h⟩ := bd_inv h
      obtain ⟨rb2, kb2⟩ := rf_inv eb2
      refine gR_3_4 C k0 (C.w wd_1_114) rb2 (dk kX4_emptyColumns 9 rfl) ?_
      refine g_iload_n C (i := 2) 2 rfl rfl (dk kX4_emptyColumns 10 rfl) ?_
      obtain ⟨c3, h⟩ := gd_inv h
      refine g_iald C kb2 c3 (dk kX4_emptyColumns 11 rfl) ?_
      refine g_ior C (dk kX4_emptyColumns 12 rfl) ?_
      obtain ⟨x4, ex4, h⟩ := lt_inv h
      refine g_nmi ex4 ?_
      refine g_istore_n C (i := 1) (lv' := [(1, .int x4), (0, .ref (za Z v0)), (2, .int v2)]) (dk kX4_emptyColumns 13 rfl) rfl (by decide) rfl ?_
      obtain ⟨x5, ex5, h⟩ := lt_inv h
      refine g_iinc C (i := 2) (v := x5) (lv' := [(2, .int x5), (1, .int x4), (0, .ref (za Z v0))]) 2 (dk kX4_emptyColumns 14 rfl) rfl (by rw [ex5]; rfl) (by decide) rfl ?_
      refine g_goto C (tgt := 4) (dk kX4_emptyColumns 15 rfl) (by decide) ?_
      exact g_sub [2, 1, 0] rfl (ih x4 x5 y h he)
set_option maxRecDepth 100000 in
set_option maxHeartbeats 4000000 in
theorem t_X4_emptyColumns {l : Launch} {Z : ZZ} {X : XX} (μ : Mm) (a0 : Nat) (r : Int32) (k0 : (zk Z a0).1 = 3) (h : f_X4_emptyColumns (zk Z) μ a0 = some r) (C : Cx l Z false X cX4_emptyColumns RX4 3 (some .int)) (E : Ex Z X 1 0 0 (some (.int r)) Z μ) : G Z X 3 0 0 0 [(0, .ref (za Z a0))] [] μ := by
  unfold f_X4_emptyColumns at h
  refine g_iconst C (v := 0) (by decide) (dk kX4_emptyColumns 0 rfl) ?_
  refine g_istore_n C (i := 1) (lv' := [(1, .int 0), (0, .ref (za Z a0))]) (dk kX4_emptyColumns 1 rfl) rfl (by decide) rfl ?_
  refine g_iconst C (v := 0) (by decide) (dk kX4_emptyColumns 2 rfl) ?_
  refine g_istore_n C (i := 2) (lv' := [(2, .int 0), (1, .int 0), (0, .ref (za Z a0))]) (dk kX4_emptyColumns 3 rfl) rfl (by decide) rfl ?_
  obtain ⟨q6, eq6, h⟩ := bd_inv h
  refine g_sub [2, 1, 0] (lv' := [(0, .ref (za Z a0)), (1, .int 0), (2, .int 0)]) rfl ?_
  refine gl_X4_emptyColumns_4 a0 k0 μ C E.2 FU 0 0 _ eq6 ?_
  obtain ⟨x7, ex7, h⟩ := lt_inv h
  rw [← ex7]
  refine g_aload_n C (i := 0) 0 rfl rfl (dk kX4_emptyColumns 16 rfl) ?_
  obtain ⟨x9, eq8, h⟩ := bd_inv h
  refine g_callV C E.2 (rest := []) 0 (ct_X4_allColumns k0 eq8) wd_4_28 mm_X4_allColumns ⟨rfl, by decide, by decide, by decide⟩ rfl (by decide) k0 (by decide) rfl rfl (Nat.le_of_ble_eq_true rfl) (by decide) (dk kX4_emptyColumns 17 rfl) ?_
  refine g_iload_n C (i := 1) 1 rfl rfl (dk kX4_emptyColumns 18 rfl) ?_
  refine g_iconst C (v := (-1)) (by decide) (dk kX4_emptyColumns 19 rfl) ?_
  refine g_ixor C (dk kX4_emptyColumns 20 rfl) ?_
  refine g_iand C (dk kX4_emptyColumns 21 rfl) ?_
  have h9 := Option.some.inj h
  subst h9
  exact g_iret C E rfl rfl (Nat.le_refl 0) (Nat.le_refl 0) (dk kX4_emptyColumns 22 rfl)
theorem ct_X4_emptyColumns {l : Launch} {Z : ZZ} {μ : Mm} {a0 : Nat} {r : Int32} (k0 : (zk Z a0).1 = 3) (h : f_X4_emptyColumns (zk Z) μ a0 = some r) : CtM l Z false yX4_emptyColumns cX4_emptyColumns 3 (some .int) 1 0 0 [.ref (za Z a0)] μ (some (.int r)) Z μ := ct_of rfl rfl (Nat.le_of_ble_eq_true rfl) (fun X C E => t_X4_emptyColumns μ a0 r k0 h C E)

def qX4_takeOver : List (Nat × Instr × Nat) := [(0, .aload_n 0, 1), (1, .aload_n 1, 1), (2, .getfield 9, 3), (5, .putfield 9, 3), (8, .aload_n 0, 1), (9, .aload_n 1, 1), (10, .getfield 15, 3), (13, .putfield 15, 3), (16, .aload_n 0, 1), (17, .aload_n 1, 1), (18, .getfield 22, 3), (21, .putfield 22, 3), (24, .aload_n 0, 1), (25, .aload_n 1, 1), (26, .getfield 25, 3), (29, .putfield 25, 3), (32, .aload_n 1, 1), (33, .getfield 18, 3), (36, .iconst 0, 1), (37, .aload_n 0, 1), (38, .getfield 18, 3), (41, .iconst 0, 1), (42, .bipush 6, 2), (44, .invokestatic 28, 3), (47, .return_, 1)]
theorem kX4_takeOver : ∀ q ∈ qX4_takeOver, decode cX4_takeOver q.1 = .ok q.2 := by decide +kernel
def f_X4_takeOver (K : Nat → Nat × Nat) (μ : Mm) (a0 : Nat) (a1 : Nat) : Option (Mm) :=
  lt1 (sI μ a0 0 (μ.1 a1 0)) fun μ1 => lt1 (sI μ1 a0 1 (μ1.1 a1 1)) fun μ2 => lt1 (sI μ2 a0 2 (μ2.1 a1 2)) fun μ3 => lt1 (sI μ3 a0 3 (μ3.1 a1 3)) fun μ4 => bd (rf K μ4 a1 4 8) fun b5 => bd (rf K μ4 a0 4 8) fun b6 => gd (okc 0 0 6 (K b5).2 (K b6).2) <| lt1 (sIr μ4 b6 (va_cpy (μ4.1 b5) (μ4.1 b6) (ix 0) (ix 0) (ix 6))) fun μ8 => some (μ8)
set_option maxRecDepth 100000 in
set_option maxHeartbeats 4000000 in
theorem t_X4_takeOver {l : Launch} {Z : ZZ} {X : XX} (μ : Mm) (a0 : Nat) (a1 : Nat) (μ' : Mm) (k0 : (zk Z a0).1 = 3) (k1 : (zk Z a1).1 = 3) (h : f_X4_takeOver (zk Z) μ a0 a1 = some μ') (C : Cx l Z false X cX4_takeOver RX4 2 none) (E : Ex Z X 1 0 0 none Z μ') : G Z X 2 0 0 0 [(0, .ref (za Z a0)), (1, .ref (za Z a1))] [] μ := by
  unfold f_X4_takeOver at h
  refine g_aload_n C (i := 0) 0 rfl rfl (dk kX4_takeOver 0 rfl) ?_
  refine g_aload_n C (i := 1) 1 rfl rfl (dk kX4_takeOver 1 rfl) ?_
  refine gI_3_0 C k1 (C.w wd_1_104) (dk kX4_takeOver 2 rfl) ?_
  obtain ⟨μ1, eμ1, h⟩ := lt_inv h
  refine pI_3_0 C k0 (C.w wd_1_104) eμ1 (dk kX4_takeOver 3 rfl) ?_
  refine g_aload_n C (i := 0) 0 rfl rfl (dk kX4_takeOver 4 rfl) ?_
  refine g_aload_n C (i := 1) 1 rfl rfl (dk kX4_takeOver 5 rfl) ?_
  refine gI_3_1 C k1 (C.w wd_1_107) (dk kX4_takeOver 6 rfl) ?_
  obtain ⟨μ2, eμ2, h⟩ := lt_inv h
  refine pI_3_1 C k0 (C.w wd_1_107) eμ2 (dk kX4_takeOver 7 rfl) ?_
  refine g_aload_n C (i := 0) 0 rfl rfl (dk kX4_takeOver 8 rfl) ?_
  refine g_aload_n C (i := 1) 1 rfl rfl (dk kX4_takeOver 9 rfl) ?_
  refine gI_3_2 C k1 (C.w wd_1_110) (dk kX4_takeOver 10 rfl) ?_
  obtain ⟨μ3, eμ3, h⟩ := lt_inv h
  refine pI_3_2 C k0 (C.w wd_1_110) eμ3 (dk kX4_takeOver 11 rfl) ?_
  refine g_aload_n C (i := 0) 0 rfl rfl (dk kX4_takeOver 12 rfl) ?_
  refine g_aload_n C (i := 1) 1 rfl rfl (dk kX4_takeOver 13 rfl) ?_
  refine gI_3_3 C k1 (C.w wd_1_112) (dk kX4_takeOver 14 rfl) ?_
  obtain ⟨μ4, eμ4, h⟩ := lt_inv h
  refine pI_3_3 C k0 (C.w wd_1_112) eμ4 (dk kX4_takeOver 15 rfl) ?_
  refine g_aload_n C (i := 1) 1 rfl rfl (dk kX4_takeOver 16 rfl) ?_
  obtain ⟨b5, eb5, h⟩ := bd_inv h
  obtain ⟨rb5, kb5⟩ := rf_inv eb5
  refine gR_3_4 C k1 (C.w wd_1_114) rb5 (dk kX4_takeOver 17 rfl) ?_
  refine g_iconst C (v := 0) (by decide) (dk kX4_takeOver 18 rfl) ?_
  refine g_aload_n C (i := 0) 0 rfl rfl (dk kX4_takeOver 19 rfl) ?_
  obtain ⟨b6, eb6, h⟩ := bd_inv h
  obtain ⟨rb6, kb6⟩ := rf_inv eb6
  refine gR_3_4 C k0 (C.w wd_1_114) rb6 (dk kX4_takeOver 20 rfl) ?_
  refine g_iconst C (v := 0) (by decide) (dk kX4_takeOver 21 rfl) ?_
  refine g_bipush C (v := 6) (by decide) (dk kX4_takeOver 22 rfl) ?_
  obtain ⟨c7, h⟩ := gd_inv h
  obtain ⟨μ8, eμ8, h⟩ := lt_inv h
  refine g_copy C E.2 kb5 kb6 c7 (by decide) (Nat.le_of_ble_eq_true rfl) (C.w wd_2_104) (C.w wd_1_98) (C.w wd_1_97) (C.w wd_1_7) eμ8 (dk kX4_takeOver 23 rfl) ?_
  have h9 := Option.some.inj h
  subst h9
  exact g_vret C E (Nat.le_refl 0) (Nat.le_refl 0) (dk kX4_takeOver 24 rfl)
theorem ct_X4_takeOver {l : Launch} {Z : ZZ} {μ : Mm} {a0 : Nat} {a1 : Nat} {μ' : Mm} (k0 : (zk Z a0).1 = 3) (k1 : (zk Z a1).1 = 3) (h : f_X4_takeOver (zk Z) μ a0 a1 = some μ') : CtM l Z false yX4_takeOver cX4_takeOver 2 none 1 0 0 [.ref (za Z a0), .ref (za Z a1)] μ none Z μ' := ct_of rfl rfl (Nat.le_of_ble_eq_true rfl) (fun X C E => t_X4_takeOver μ a0 a1 μ' k0 k1 h C E)

def qX4_value : List (Nat × Instr × Nat) := [(0, .iload_n 1, 1), (1, .tableswitch 60 0 4 #[35, 40, 45, 50, 55], 35), (36, .aload_n 0, 1), (37, .getfield 9, 3), (40, .ireturn, 1), (41, .aload_n 0, 1), (42, .getfield 15, 3), (45, .ireturn, 1), (46, .aload_n 0, 1), (47, .invokevirtual 44, 3), (50, .ireturn, 1), (51, .aload_n 0, 1), (52, .getfield 22, 3), (55, .ireturn, 1), (56, .aload_n 0, 1), (57, .getfield 25, 3), (60, .ireturn, 1), (61, .aload_n 0, 1), (62, .invokevirtual 47, 3), (65, .ireturn, 1)]
theorem kX4_value : ∀ q ∈ qX4_value, decode cX4_value q.1 = .ok q.2 := by decide +kernel
def f_X4_value (K : Nat → Nat × Nat) (μ : Mm) (a0 : Nat) (a1 : Int32) : Option (Int32) :=
  if a1 = 0 then (some (μ.1 a0 0)) else (if a1 = 1 then (some (μ.1 a0 1)) else (if a1 = 2 then (bd (f_X4_blackCells K μ a0) fun x5 => some x5) else (if a1 = 3 then (some (μ.1 a0 2)) else (if a1 = 4 then (some (μ.1 a0 3)) else (bd (f_X4_emptyColumns K μ a0) fun x9 => some x9)))))
set_option maxRecDepth 100000 in
set_option maxHeartbeats 4000000 in
theorem t_X4_value {l : Launch} {Z : ZZ} {X : XX} (μ : Mm) (a0 : Nat) (a1 : Int32) (r : Int32) (k0 : (zk Z a0).1 = 3) (h : f_X4_value (zk Z) μ a0 a1 = some r) (C : Cx l Z false X cX4_value RX4 2 (some .int)) (E : Ex Z X 2 0 0 (some (.int r)) Z μ) : G Z X 2 0 0 0 [(0, .ref (za Z a0)), (1, .int a1)] [] μ := by
  unfold f_X4_value at h
  refine g_iload_n C (i := 1) 1 rfl rfl (dk kX4_value 0 rfl) ?_
  by_cases c1 : a1 = 0
  · replace h := ite_t h c1
    refine g_tin C (tgt := 36) (dk kX4_value 1 rfl) (by rw [c1]; decide) (by rw [c1]; decide) (by rw [c1]; rfl) (by decide) ?_
    refine g_aload_n C (i := 0) 0 rfl rfl (dk kX4_value 2 rfl) ?_
    refine gI_3_0 C k0 (C.w wd_1_104) (dk kX4_value 3 rfl) ?_
    have h9 := Option.some.inj h
    subst h9
    exact g_iret C E rfl rfl (Nat.le_refl 0) (Nat.le_refl 0) (dk kX4_value 4 rfl)
  · replace h := ite_f h c1
    by_cases c2 : a1 = 1
    · replace h := ite_t h c2
      refine g_tin C (tgt := 41) (dk kX4_value 1 rfl) (by rw [c2]; decide) (by rw [c2]; decide) (by rw [c2]; rfl) (by decide) ?_
      refine g_aload_n C (i := 0) 0 rfl rfl (dk kX4_value 5 rfl) ?_
      refine gI_3_1 C k0 (C.w wd_1_107) (dk kX4_value 6 rfl) ?_
      have h9 := Option.some.inj h
      subst h9
      exact g_iret C E rfl rfl (Nat.le_refl 0) (Nat.le_refl 0) (dk kX4_value 7 rfl)
    · replace h := ite_f h c2
      by_cases c3 : a1 = 2
      · replace h := ite_t h c3
        refine g_tin C (tgt := 46) (dk kX4_value 1 rfl) (by rw [c3]; decide) (by rw [c3]; decide) (by rw [c3]; rfl) (by decide) ?_
        refine g_aload_n C (i := 0) 0 rfl rfl (dk kX4_value 8 rfl) ?_
        obtain ⟨x5, eq4, h⟩ := bd_inv h
        refine g_callV C E.2 (rest := []) 0 (ct_X4_blackCells k0 eq4) wd_4_23 mm_X4_blackCells ⟨rfl, by decide, by decide, by decide⟩ rfl (by decide) k0 (by decide) rfl rfl (Nat.le_of_ble_eq_true rfl) (by decide) (dk kX4_value 9 rfl) ?_
        have h9 := Option.some.inj h
        subst h9
        exact g_iret C E rfl rfl (Nat.le_refl 0) (Nat.le_refl 0) (dk kX4_value 10 rfl)
      · replace h := ite_f h c3
        by_cases c6 : a1 = 3
        · replace h := ite_t h c6
          refine g_tin C (tgt := 51) (dk kX4_value 1 rfl) (by rw [c6]; decide) (by rw [c6]; decide) (by rw [c6]; rfl) (by decide) ?_
          refine g_aload_n C (i := 0) 0 rfl rfl (dk kX4_value 11 rfl) ?_
          refine gI_3_2 C k0 (C.w wd_1_110) (dk kX4_value 12 rfl) ?_
          have h9 := Option.some.inj h
          subst h9
          exact g_iret C E rfl rfl (Nat.le_refl 0) (Nat.le_refl 0) (dk kX4_value 13 rfl)
        · replace h := ite_f h c6
          by_cases c7 : a1 = 4
          · replace h := ite_t h c7
            refine g_tin C (tgt := 56) (dk kX4_value 1 rfl) (by rw [c7]; decide) (by rw [c7]; decide) (by rw [c7]; rfl) (by decide) ?_
            refine g_aload_n C (i := 0) 0 rfl rfl (dk kX4_value 14 rfl) ?_
            refine gI_3_3 C k0 (C.w wd_1_112) (dk kX4_value 15 rfl) ?_
            have h9 := Option.some.inj h
            subst h9
            exact g_iret C E rfl rfl (Nat.le_refl 0) (Nat.le_refl 0) (dk kX4_value 16 rfl)
          · replace h := ite_f h c7
            refine g_tout C (tgt := 61) (dk kX4_value 1 rfl) (by have q0 := lv_neT c1 (a := 0) (by decide); have q1 := lv_neT c2 (a := 1) (by decide); have q2 := lv_neT c3 (a := 2) (by decide); have q3 := lv_neT c6 (a := 3) (by decide); have q4 := lv_neT c7 (a := 4) (by decide); omega) (by decide) ?_
            refine g_aload_n C (i := 0) 0 rfl rfl (dk kX4_value 17 rfl) ?_
            obtain ⟨x9, eq8, h⟩ := bd_inv h
            refine g_callV C E.2 (rest := []) 0 (ct_X4_emptyColumns k0 eq8) wd_4_24 mm_X4_emptyColumns ⟨rfl, by decide, by decide, by decide⟩ rfl (by decide) k0 (by decide) rfl rfl (Nat.le_of_ble_eq_true rfl) (by decide) (dk kX4_value 18 rfl) ?_
            have h9 := Option.some.inj h
            subst h9
            exact g_iret C E rfl rfl (Nat.le_refl 0) (Nat.le_refl 0) (dk kX4_value 19 rfl)
theorem ct_X4_value {l : Launch} {Z : ZZ} {μ : Mm} {a0 : Nat} {a1 : Int32} {r : Int32} (k0 : (zk Z a0).1 = 3) (h : f_X4_value (zk Z) μ a0 a1 = some r) : CtM l Z false yX4_value cX4_value 2 (some .int) 2 0 0 [.ref (za Z a0), .int a1] μ (some (.int r)) Z μ := ct_of rfl rfl (Nat.le_of_ble_eq_true rfl) (fun X C E => t_X4_value μ a0 a1 r k0 h C E)
