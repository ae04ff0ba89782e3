def qX8_isCustomer : List (Nat × Instr × Nat) := [(0, .iload_n 1, 1), (1, .iconst 0, 1), (2, .aload_n 0, 1), (3, .getfield 7, 3), (6, .bipush 9, 2), (8, .iaload, 1), (9, .iconst 1, 1), (10, .isub, 1), (11, .invokestatic 36, 3), (14, .ireturn, 1)]
theorem kX8_isCustomer : ∀ q ∈ qX8_isCustomer, decode cX8_isCustomer q.1 = .ok q.2 := by decide +kernel
def f_X8_isCustomer (K : Nat → Nat × Nat) (μ : Mm) (a0 : Nat) (a1 : Int32) : Option (Int32) :=
  bd (rf K μ a0 0 8) fun b1 => gd (inb 9 (K b1).2) <| bd (f_X8_in a1 0 ((μ.1 b1 (ix 9)) - 1)) fun x4 => gd (x4 = 0 ∨ x4 = 1) <| some x4
set_option maxRecDepth 100000 in
set_option maxHeartbeats 4000000 in
theorem t_X8_isCustomer {l : Launch} {Z : ZZ} {X : XX} (μ : Mm) (a0 : Nat) (a1 : Int32) (r : Int32) (k0 : (zk Z a0).1 = 6) (h : f_X8_isCustomer (zk Z) μ a0 a1 = some r) (C : Cx l Z false X cX8_isCustomer RX8 2 (some .boolean)) (E : Ex Z X 1 0 0 (some (.int r)) Z μ) : G Z X 2 0 0 0 [(0, .ref (za Z a0)), (1, .int a1)] [] μ := by
  unfold f_X8_isCustomer at h
  refine g_iload_n C (i := 1) 1 rfl rfl (dk kX8_isCustomer 0 rfl) ?_
  refine g_iconst C (v := 0) (by decide) (dk kX8_isCustomer 1 rfl) ?_
  refine g_aload_n C (i := 0) 0 rfl rfl (dk kX8_isCustomer 2 rfl) ?_
  obtain ⟨b1, eb1, h⟩ := bd_inv h
  obtain ⟨rb1, kb1⟩ := rf_inv eb1
  refine gR_6_0 C k0 (C.w wd_5_3) rb1 (dk kX8_isCustomer 3 rfl) ?_
  refine g_bipush C (v := 9) (by decide) (dk kX8_isCustomer 4 rfl) ?_
  obtain ⟨c2, h⟩ := gd_inv h
  refine g_iald C kb1 c2 (dk kX8_isCustomer 5 rfl) ?_
  refine g_iconst C (v := 1) (by decide) (dk kX8_isCustomer 6 rfl) ?_
  refine g_isub C (dk kX8_isCustomer 7 rfl) ?_
  obtain ⟨x4, eq3, h⟩ := bd_inv h
  refine g_callS C E.2 (rest := []) 3 (ct_X8_in  eq3) wd_5_45 mm_X8_in ⟨by decide, by decide, by decide⟩ rfl (by decide) rfl (Nat.le_of_ble_eq_true rfl) (by decide) (dk kX8_isCustomer 8 rfl) ?_
  obtain ⟨c5, h⟩ := gd_inv h
  have h9 := Option.some.inj h
  subst h9
  exact g_iret C E rfl (br0 _ c5) (Nat.le_refl 0) (Nat.le_refl 0) (dk kX8_isCustomer 9 rfl)
theorem ct_X8_isCustomer {l : Launch} {Z : ZZ} {μ : Mm} {a0 : Nat} {a1 : Int32} {r : Int32} (k0 : (zk Z a0).1 = 6) (h : f_X8_isCustomer (zk Z) μ a0 a1 = some r) : CtM l Z false yX8_isCustomer cX8_isCustomer 2 (some .boolean) 1 0 0 [.ref (za Z a0), .int a1] μ (some (.int r)) Z μ := ct_of rfl rfl (Nat.le_of_ble_eq_true rfl) (fun X C E => t_X8_isCustomer μ a0 a1 r k0 h C E)

def qX8_isLabel : List (Nat × Instr × Nat) := [(0, .iload_n 1, 1), (1, .iconst 0, 1), (2, .aload_n 0, 1), (3, .getfield 7, 3), (6, .bipush 8, 2), (8, .iaload, 1), (9, .iconst 1, 1), (10, .isub, 1), (11, .invokestatic 36, 3), (14, .ireturn, 1)]
theorem kX8_isLabel : ∀ q ∈ qX8_isLabel, decode cX8_isLabel q.1 = .ok q.2 := by decide +kernel
def f_X8_isLabel (K : Nat → Nat × Nat) (μ : Mm) (a0 : Nat) (a1 : Int32) : Option (Int32) :=
  bd (rf K μ a0 0 8) fun b1 => gd (inb 8 (K b1).2) <| bd (f_X8_in a1 0 ((μ.1 b1 (ix 8)) - 1)) fun x4 => gd (x4 = 0 ∨ x4 = 1) <| some x4
set_option maxRecDepth 100000 in
set_option maxHeartbeats 4000000 in
theorem t_X8_isLabel {l : Launch} {Z : ZZ} {X : XX} (μ : Mm) (a0 : Nat) (a1 : Int32) (r : Int32) (k0 : (zk Z a0).1 = 6) (h : f_X8_isLabel (zk Z) μ a0 a1 = some r) (C : Cx l Z false X cX8_isLabel RX8 2 (some .boolean)) (E : Ex Z X 1 0 0 (some (.int r)) Z μ) : G Z X 2 0 0 0 [(0, .ref (za Z a0)), (1, .int a1)] [] μ := by
  unfold f_X8_isLabel at h
  refine g_iload_n C (i := 1) 1 rfl rfl (dk kX8_isLabel 0 rfl) ?_
  refine g_iconst C (v := 0) (by decide) (dk kX8_isLabel 1 rfl) ?_
  refine g_aload_n C (i := 0) 0 rfl rfl (dk kX8_isLabel 2 rfl) ?_
  obtain ⟨b1, eb1, h⟩ := bd_inv h
  obtain ⟨rb1, kb1⟩ := rf_inv eb1
  refine gR_6_0 C k0 (C.w wd_5_3) rb1 (dk kX8_isLabel 3 rfl) ?_
  refine g_bipush C (v := 8) (by decide) (dk kX8_isLabel 4 rfl) ?_
  obtain ⟨c2, h⟩ := gd_inv h
  refine g_iald C kb1 c2 (dk kX8_isLabel 5 rfl) ?_
  refine g_iconst C (v := 1) (by decide) (dk kX8_isLabel 6 rfl) ?_
  refine g_isub C (dk kX8_isLabel 7 rfl) ?_
  obtain ⟨x4, eq3, h⟩ := bd_inv h
  refine g_callS C E.2 (rest := []) 3 (ct_X8_in  eq3) wd_5_45 mm_X8_in ⟨by decide, by decide, by decide⟩ rfl (by decide) rfl (Nat.le_of_ble_eq_true rfl) (by decide) (dk kX8_isLabel 8 rfl) ?_
  obtain ⟨c5, h⟩ := gd_inv h
  have h9 := Option.some.inj h
  subst h9
  exact g_iret C E rfl (br0 _ c5) (Nat.le_refl 0) (Nat.le_refl 0) (dk kX8_isLabel 9 rfl)
theorem ct_X8_isLabel {l : Launch} {Z : ZZ} {μ : Mm} {a0 : Nat} {a1 : Int32} {r : Int32} (k0 : (zk Z a0).1 = 6) (h : f_X8_isLabel (zk Z) μ a0 a1 = some r) : CtM l Z false yX8_isLabel cX8_isLabel 2 (some .boolean) 1 0 0 [.ref (za Z a0), .int a1] μ (some (.int r)) Z μ := ct_of rfl rfl (Nat.le_of_ble_eq_true rfl) (fun X C E => t_X8_isLabel μ a0 a1 r k0 h C E)

def qX8_wrong : List (Nat × Instr × Nat) := [(0, .aload_n 0, 1), (1, .iload_n 1, 1), (2, .invokevirtual 85, 3), (5, .ifCond .eq 11, 3), (8, .aload_n 0, 1), (9, .iload_n 2, 1), (10, .invokevirtual 65, 3), (13, .ifCond .ne 7, 3), (16, .iconst 1, 1), (17, .goto 18, 3), (20, .iload_n 3, 1), (21, .iconst 0, 1), (22, .bipush 23, 2), (24, .invokestatic 36, 3), (27, .ifCond .eq 7, 3), (30, .iconst 0, 1), (31, .goto 4, 3), (34, .iconst 2, 1), (35, .ireturn, 1)]
theorem kX8_wrong : ∀ q ∈ qX8_wrong, decode cX8_wrong q.1 = .ok q.2 := by decide +kernel
def f_X8_wrong (K : Nat → Nat × Nat) (μ : Mm) (a0 : Nat) (a1 : Int32) (a2 : Int32) (a3 : Int32) : Option (Int32) :=
  bd (f_X8_isCustomer K μ a0 a1) fun x2 => if x2 = 0 then (some 1) else (bd (f_X8_isLabel K μ a0 a2) fun x5 => if x5 = 0 then (some 1) else (bd (f_X8_in a3 0 23) fun x8 => lt1 (α := Int32) (if x8 = 0 then 2 else 0) fun x9 => some x9))
set_option maxRecDepth 100000 in
set_option maxHeartbeats 4000000 in
theorem t_X8_wrong {l : Launch} {Z : ZZ} {X : XX} (μ : Mm) (a0 : Nat) (a1 : Int32) (a2 : Int32) (a3 : Int32) (r : Int32) (k0 : (zk Z a0).1 = 6) (h : f_X8_wrong (zk Z) μ a0 a1 a2 a3 = some r) (C : Cx l Z false X cX8_wrong RX8 4 (some .int)) (E : Ex Z X 2 0 0 (some (.int r)) Z μ) : G Z X 4 0 0 0 [(0, .ref (za Z a0)), (1, .int a1), (2, .int a2), (3, .int a3)] [] μ := by
  unfold f_X8_wrong at h
  refine g_aload_n C (i := 0) 0 rfl rfl (dk kX8_wrong 0 rfl) ?_
  refine g_iload_n C (i := 1) 1 rfl rfl (dk kX8_wrong 1 rfl) ?_
  obtain ⟨x2, eq1, h⟩ := bd_inv h
  refine g_callV C E.2 (rest := []) 1 (ct_X8_isCustomer k0 eq1) wd_5_116 mm_X8_isCustomer ⟨rfl, by decide, by decide, by decide⟩ rfl (by decide) k0 (by decide) rfl rfl (Nat.le_of_ble_eq_true rfl) (by decide) (dk kX8_wrong 2 rfl) ?_
  refine g_if_eq C (tgt := 16) (dk kX8_wrong 3 rfl) (by decide) (fun c3 => ?_) (fun c3 => ?_)
  · replace h := ite_t h c3
    refine g_iconst C (v := 1) (by decide) (dk kX8_wrong 8 rfl) ?_
    refine g_goto C (tgt := 35) (dk kX8_wrong 9 rfl) (by decide) ?_
    have h9 := Option.some.inj h
    subst h9
    exact g_iret C E rfl rfl (Nat.le_refl 0) (Nat.le_refl 0) (dk kX8_wrong 18 rfl)
  · replace h := ite_f h c3
    refine g_aload_n C (i := 0) 0 rfl rfl (dk kX8_wrong 4 rfl) ?_
    refine g_iload_n C (i := 2) 2 rfl rfl (dk kX8_wrong 5 rfl) ?_
    obtain ⟨x5, eq4, h⟩ := bd_inv h
    refine g_callV C E.2 (rest := []) 1 (ct_X8_isLabel k0 eq4) wd_5_85 mm_X8_isLabel ⟨rfl, by decide, by decide, by decide⟩ rfl (by decide) k0 (by decide) rfl rfl (Nat.le_of_ble_eq_true rfl) (by decide) (dk kX8_wrong 6 rfl) ?_
    refine g_if_ne C (tgt := 20) (dk kX8_wrong 7 rfl) (by decide) (fun c6 => ?_) (fun c6 => ?_)
    · replace h := ite_f h c6
      refine g_iload_n C (i := 3) 3 rfl rfl (dk kX8_wrong 10 rfl) ?_
      refine g_iconst C (v := 0) (by decide) (dk kX8_wrong 11 rfl) ?_
      refine g_bipush C (v := 23) (by decide) (dk kX8_wrong 12 rfl) ?_
      obtain ⟨x8, eq7, h⟩ := bd_inv h
      refine g_callS C E.2 (rest := []) 3 (ct_X8_in  eq7) wd_5_45 mm_X8_in ⟨by decide, by decide, by decide⟩ rfl (by decide) rfl (Nat.le_of_ble_eq_true rfl) (by decide) (dk kX8_wrong 13 rfl) ?_
      obtain ⟨x9, ex9, h⟩ := lt_inv h
      have kj10 : G Z X 4 0 0 35 [(0, .ref (za Z a0)), (1, .int a1), (2, .int a2), (3, .int a3)] [.int x9] μ := by
        have h9 := Option.some.inj h
        subst h9
        exact g_iret C E rfl rfl (Nat.le_refl 0) (Nat.le_refl 0) (dk kX8_wrong 18 rfl)
      clear h
      refine g_if_eq C (tgt := 34) (dk kX8_wrong 14 rfl) (by decide) (fun c11 => ?_) (fun c11 => ?_)
      · refine g_iconst C (v := 2) (by decide) (dk kX8_wrong 17 rfl) ?_
        exact g_nmi (by rw [ex9, if_pos c11]) kj10
      · refine g_iconst C (v := 0) (by decide) (dk kX8_wrong 15 rfl) ?_
        refine g_goto C (tgt := 35) (dk kX8_wrong 16 rfl) (by decide) ?_
        exact g_nmi (by rw [ex9, if_neg c11]) kj10
    · replace h := ite_t h c6
      refine g_iconst C (v := 1) (by decide) (dk kX8_wrong 8 rfl) ?_
      refine g_goto C (tgt := 35) (dk kX8_wrong 9 rfl) (by decide) ?_
      have h9 := Option.some.inj h
      subst h9
      exact g_iret C E rfl rfl (Nat.le_refl 0) (Nat.le_refl 0) (dk kX8_wrong 18 rfl)
theorem ct_X8_wrong {l : Launch} {Z : ZZ} {μ : Mm} {a0 : Nat} {a1 : Int32} {a2 : Int32} {a3 : Int32} {r : Int32} (k0 : (zk Z a0).1 = 6) (h : f_X8_wrong (zk Z) μ a0 a1 a2 a3 = some r) : CtM l Z false yX8_wrong cX8_wrong 4 (some .int) 2 0 0 [.ref (za Z a0), .int a1, .int a2, .int a3] μ (some (.int r)) Z μ := ct_of rfl rfl (Nat.le_of_ble_eq_true rfl) (fun X C E => t_X8_wrong μ a0 a1 a2 a3 r k0 h C E)

def qX8_bestOffset : List (Nat × Instr × Nat) := [(0, .aload_n 0, 1), (1, .aload_n 0, 1), (2, .iload_n 1, 1), (3, .iload_n 2, 1), (4, .iconst 0, 1), (5, .invokevirtual 125, 3), (8, .invokevirtual 44, 3), (11, .ifCond .eq 7, 3), (14, .iconst 0, 1), (15, .goto 9, 3), (18, .aload_n 0, 1), (19, .iload_n 1, 1), (20, .iload_n 2, 1), (21, .invokevirtual 131, 3), (24, .ireturn, 1)]
theorem kX8_bestOffset : ∀ q ∈ qX8_bestOffset, decode cX8_bestOffset q.1 = .ok q.2 := by decide +kernel
def f_X8_bestOffset (K : Nat → Nat × Nat) (μ : Mm) (a0 : Nat) (a1 : Int32) (a2 : Int32) : Option (Int32 × Mm) :=
  bd (f_X8_wrong K μ a0 a1 a2 0) fun x2 => bd (f_X8_throwsAt K μ a0 x2) fun q3 => lt1 q3.1 fun x5 => lt1 q3.2 fun μ4 => if x5 = 0 then (bd (f_X8_best K μ4 a0 a1 a2) fun q7 => lt1 q7.1 fun x9 => lt1 q7.2 fun μ8 => some (x9, μ8)) else (some (0, μ4))
set_option maxRecDepth 100000 in
set_option maxHeartbeats 4000000 in
theorem t_X8_bestOffset {l : Launch} {Z : ZZ} {X : XX} (μ : Mm) (a0 : Nat) (a1 : Int32) (a2 : Int32) (r : Int32) (μ' : Mm) (k0 : (zk Z a0).1 = 6) (h : f_X8_bestOffset (zk Z) μ a0 a1 a2 = some (r, μ')) (C : Cx l Z false X cX8_bestOffset RX8 3 (some .int)) (E : Ex Z X 5 0 0 (some (.int r)) Z μ') : G Z X 3 0 0 0 [(0, .ref (za Z a0)), (1, .int a1), (2, .int a2)] [] μ := by
  unfold f_X8_bestOffset at h
  refine g_aload_n C (i := 0) 0 rfl rfl (dk kX8_bestOffset 0 rfl) ?_
  refine g_aload_n C (i := 0) 0 rfl rfl (dk kX8_bestOffset 1 rfl) ?_
  refine g_iload_n C (i := 1) 1 rfl rfl (dk kX8_bestOffset 2 rfl) ?_
  refine g_iload_n C (i := 2) 2 rfl rfl (dk kX8_bestOffset 3 rfl) ?_
  refine g_iconst C (v := 0) (by decide) (dk kX8_bestOffset 4 rfl) ?_
  obtain ⟨x2, eq1, h⟩ := bd_inv h
  refine g_callV C E.2 (rest := [.ref (za Z a0)]) 3 (ct_X8_wrong k0 eq1) wd_5_144 mm_X8_wrong ⟨rfl, by decide, by decide, by decide⟩ rfl (by decide) k0 (by decide) rfl rfl (Nat.le_of_ble_eq_true rfl) (by decide) (dk kX8_bestOffset 5 rfl) ?_
  obtain ⟨q3, eq3, h⟩ := bd_inv h
  obtain ⟨x5, ex5, h⟩ := lt_inv h
  obtain ⟨μ4, eμ4, h⟩ := lt_inv h
  rw [show q3 = (x5, μ4) from by rw [ex5, eμ4]] at eq3
  refine g_callV C E.2 (rest := []) 1 (ct_X8_throwsAt k0 eq3) wd_5_48 mm_X8_throwsAt ⟨rfl, by decide, by decide, by decide⟩ rfl (by decide) k0 (by decide) rfl rfl (Nat.le_of_ble_eq_true rfl) (by decide) (dk kX8_bestOffset 6 rfl) ?_
  refine g_if_eq C (tgt := 18) (dk kX8_bestOffset 7 rfl) (by decide) (fun c6 => ?_) (fun c6 => ?_)
  · replace h := ite_t h c6
    refine g_aload_n C (i := 0) 0 rfl rfl (dk kX8_bestOffset 10 rfl) ?_
    refine g_iload_n C (i := 1) 1 rfl rfl (dk kX8_bestOffset 11 rfl) ?_
    refine g_iload_n C (i := 2) 2 rfl rfl (dk kX8_bestOffset 12 rfl) ?_
    obtain ⟨q7, eq7, h⟩ := bd_inv h
    obtain ⟨x9, ex9, h⟩ := lt_inv h
    obtain ⟨μ8, eμ8, h⟩ := lt_inv h
    rw [show q7 = (x9, μ8) from by rw [ex9, eμ8]] at eq7
    refine g_callV C E.2 (rest := []) 2 (ct_X8_best k0 eq7) wd_5_181 mm_X8_best ⟨rfl, by decide, by decide, by decide⟩ rfl (by decide) k0 (by decide) rfl rfl (Nat.le_of_ble_eq_true rfl) (by decide) (dk kX8_bestOffset 13 rfl) ?_
    obtain ⟨h8, h9⟩ := Prod.mk.inj (Option.some.inj h)
    subst h8
    subst h9
    exact g_iret C E rfl rfl (Nat.le_refl 0) (Nat.le_refl 0) (dk kX8_bestOffset 14 rfl)
  · replace h := ite_f h c6
    refine g_iconst C (v := 0) (by decide) (dk kX8_bestOffset 8 rfl) ?_
    refine g_goto C (tgt := 24) (dk kX8_bestOffset 9 rfl) (by decide) ?_
    obtain ⟨h8, h9⟩ := Prod.mk.inj (Option.some.inj h)
    subst h8
    subst h9
    exact g_iret C E rfl rfl (Nat.le_refl 0) (Nat.le_refl 0) (dk kX8_bestOffset 14 rfl)
theorem ct_X8_bestOffset {l : Launch} {Z : ZZ} {μ : Mm} {a0 : Nat} {a1 : Int32} {a2 : Int32} {r : Int32} {μ' : Mm} (k0 : (zk Z a0).1 = 6) (h : f_X8_bestOffset (zk Z) μ a0 a1 a2 = some (r, μ')) : CtM l Z false yX8_bestOffset cX8_bestOffset 3 (some .int) 5 0 0 [.ref (za Z a0), .int a1, .int a2] μ (some (.int r)) Z μ' := ct_of rfl rfl (Nat.le_of_ble_eq_true rfl) (fun X C E => t_X8_bestOffset μ a0 a1 a2 r μ' k0 h C E)

def qX8_clearCommands : List (Nat × Instr × Nat) := [(0, .aload_n 0, 1), (1, .iconst 0, 1), (2, .putfield 25, 3), (5, .aload_n 0, 1), (6, .getfield 146, 3), (9, .istore_n 1, 1), (10, .aload_n 0, 1), (11, .iconst 0, 1), (12, .putfield 146, 3), (15, .iload_n 1, 1), (16, .ireturn, 1)]
theorem kX8_clearCommands : ∀ q ∈ qX8_clearCommands, decode cX8_clearCommands q.1 = .ok q.2 := by decide +kernel
def f_X8_clearCommands (K : Nat → Nat × Nat) (μ : Mm) (a0 : Nat) : Option (Int32 × Mm) :=
  lt1 (sI μ a0 7 0) fun μ1 => lt1 (α := Int32) (μ1.1 a0 6) fun x2 => lt1 (sI μ1 a0 6 0) fun μ3 => some (x2, μ3)
set_option maxRecDepth 100000 in
set_option maxHeartbeats 4000000 in
theorem t_X8_clearCommands {l : Launch} {Z : ZZ} {X : XX} (μ : Mm) (a0 : Nat) (r : Int32) (μ' : Mm) (k0 : (zk Z a0).1 = 6) (h : f_X8_clearCommands (zk Z) μ a0 = some (r, μ')) (C : Cx l Z false X cX8_clearCommands RX8 2 (some .int)) (E : Ex Z X 0 0 0 (some (.int r)) Z μ') : G Z X 2 0 0 0 [(0, .ref (za Z a0))] [] μ := by
  unfold f_X8_clearCommands at h
  refine g_aload_n C (i := 0) 0 rfl rfl (dk kX8_clearCommands 0 rfl) ?_
  refine g_iconst C (v := 0) (by decide) (dk kX8_clearCommands 1 rfl) ?_
  obtain ⟨μ1, eμ1, h⟩ := lt_inv h
  refine pI_6_7 C k0 (C.w wd_5_10) eμ1 (dk kX8_clearCommands 2 rfl) ?_
  refine g_aload_n C (i := 0) 0 rfl rfl (dk kX8_clearCommands 3 rfl) ?_
  refine gI_6_6 C k0 (C.w wd_5_9) (dk kX8_clearCommands 4 rfl) ?_
  obtain ⟨x2, ex2, h⟩ := lt_inv h
  refine g_nmi ex2 ?_
  refine g_istore_n C (i := 1) (lv' := [(1, .int x2), (0, .ref (za Z a0))]) (dk kX8_clearCommands 5 rfl) rfl (by decide) rfl ?_
  refine g_aload_n C (i := 0) 1 rfl rfl (dk kX8_clearCommands 6 rfl) ?_
  refine g_iconst C (v := 0) (by decide) (dk kX8_clearCommands 7 rfl) ?_
  obtain ⟨μ3, eμ3, h⟩ := lt_inv h
  refine pI_6_6 C k0 (C.w wd_5_9) eμ3 (dk kX8_clearCommands 8 rfl) ?_
  refine g_iload_n C (i := 1) 0 rfl rfl (dk kX8_clearCommands 9 rfl) ?_
  obtain ⟨h8, h9⟩ := Prod.mk.inj (Option.some.inj h)
  subst h8
  subst h9
  exact g_iret C E rfl rfl (Nat.le_refl 0) (Nat.le_refl 0) (dk kX8_clearCommands 10 rfl)
theorem ct_X8_clearCommands {l : Launch} {Z : ZZ} {μ : Mm} {a0 : Nat} {r : Int32} {μ' : Mm} (k0 : (zk Z a0).1 = 6) (h : f_X8_clearCommands (zk Z) μ a0 = some (r, μ')) : CtM l Z false yX8_clearCommands cX8_clearCommands 2 (some .int) 0 0 0 [.ref (za Z a0)] μ (some (.int r)) Z μ' := ct_of rfl rfl (Nat.le_of_ble_eq_true rfl) (fun X C E => t_X8_clearCommands μ a0 r μ' k0 h C E)

def qX8_code : List (Nat × Instr × Nat) := [(0, .lconst 0, 1), (1, .lstore 6, 2), (3, .iconst 0, 1), (4, .istore 8, 2), (6, .iload 8, 2), (8, .bipush 6, 2), (10, .if_icmp .ge 91, 3), (13, .iload 8, 2), (15, .ifCond .ne 7, 3), (18, .iload_n 0, 1), (19, .goto 46, 3), (22, .iload 8, 2), (24, .iconst 1, 1), (25, .if_icmp .ne 7, 3), (28, .iload_n 1, 1), (29, .goto 36, 3), (32, .iload 8, 2), (34, .iconst 2, 1), (35, .if_icmp .ne 7, 3), (38, .iload_n 2, 1), (39, .goto 26, 3), (42, .iload 8, 2), (44, .iconst 3, 1), (45, .if_icmp .ne 7, 3), (48, .iload_n 3, 1), (49, .goto 16, 3), (52, .iload 8, 2), (54, .iconst 4, 1), (55, .if_icmp .ne 8, 3), (58, .iload 4, 2), (60, .goto 5, 3), (63, .iload 5, 2), (65, .istore 9, 2), (67, .iload 9, 2), (69, .ifCond .le 22, 3), (72, .ldc2_w 162, 3), (75, .lload 6, 2), (77, .lmul, 1), (78, .iload 9, 2), (80, .i2l, 1), (81, .ladd, 1), (82, .ldc2_w 164, 3), (85, .lsub, 1), (86, .lconst 1, 1), (87, .ladd, 1), (88, .goto 5, 3), (91, .lload 6, 2), (93, .lstore 6, 2), (95, .iinc 8 1, 3), (98, .goto (-92), 3), (101, .lload 6, 2), (103, .lreturn, 1)]
theorem kX8_code : ∀ q ∈ qX8_code, decode cX8_code q.1 = .ok q.2 := by decide +kernel
def f_X8_code_l6 (v0 : Int32) (v1 : Int32) (v2 : Int32) (v3 : Int32) (v4 : Int32) (v5 : Int32) : Nat → Int64 → Int32 → Option (Int64)
  | 0, _, _ => none
  | n + 1, v6, v8 => if 6 ≤ v8 then (some v6) else (lt1 (α := Int32) (if v8 = 0 then v0 else (if v8 = 1 then v1 else (if v8 = 2 then v2 else (if v8 = 3 then v3 else (if v8 = 4 then v4 else v5))))) fun x2 => if x2 ≤ 0 then (lt1 (α := Int32) (v8 + 1) fun x5 => f_X8_code_l6 v0 v1 v2 v3 v4 v5 n v6 x5) else (lt1 (α := Int64) ((((27 * v6) + (Int32.toInt64 x2)) - 97) + 1) fun x6 => lt1 (α := Int32) (v8 + 1) fun x7 => f_X8_code_l6 v0 v1 v2 v3 v4 v5 n x6 x7))
def f_X8_code (a0 : Int32) (a1 : Int32) (a2 : Int32) (a3 : Int32) (a4 : Int32) (a5 : Int32) : Option (Int64) :=
  bd (f_X8_code_l6 a0 a1 a2 a3 a4 a5 FU 0 0) fun q13 => lt1 q13 fun x14 => some x14
set_option maxRecDepth 100000 in
set_option maxHeartbeats 4000000 in
theorem gl_X8_code_6 {l : Launch} {Z : ZZ} {X : XX} (v0 : Int32) (v1 : Int32) (v2 : Int32) (v3 : Int32) (v4 : Int32) (v5 : Int32) (μ : Mm) (C : Cx l Z false X cX8_code RX8 10 (some .long)) (E : xR X = rmm 0 0 0) : ∀ (n : Nat) (v6 : Int64) (v8 : Int32) (y : Int64), f_X8_code_l6 v0 v1 v2 v3 v4 v5 n v6 v8 = some y → G Z X 10 0 0 101 [(6, .long y)] [] (μ) → G Z X 10 0 0 6 [(0, .int v0), (1, .int v1), (2, .int v2), (3, .int v3), (4, .int v4), (5, .int v5), (6, .long v6), (8, .int v8)] [] μ := by
  intro n
  induction n with
  | zero => intro v6 v8 y h he; unfold f_X8_code_l6 at h; cases h
  | succ n ih =>
    intro v6 v8 y h he
    unfold f_X8_code_l6 at h
    refine g_iload C (i := 8) 7 rfl (dk kX8_code 4 rfl) ?_
    refine g_bipush C (v := 6) (by decide) (dk kX8_code 5 rfl) ?_
    refine g_icmp_ge C (tgt := 101) (dk kX8_code 6 rfl) (by decide) (fun c1 => ?_) (fun c1 => ?_)
    · replace h := ite_t h c1
      cases h
      exact g_sub [6] rfl he
    · replace h := ite_f h c1
      refine g_iload C (i := 8) 7 rfl (dk kX8_code 7 rfl) ?_
      obtain ⟨x2, ex2, h⟩ := lt_inv h
      have kj3 : G Z X 10 0 0 65 [(0, .int v0), (1, .int v1), (2, .int v2), (3, .int v3), (4, .int v4), (5, .int v5), (6, .long v6), (8, .int v8)] [.int x2] μ := by
        refine g_istore C (i := 9) (lv' := [(9, .int x2), (0, .int v0), (1, .int v1), (2, .int v2), (3, .int v3), (4, .int v4), (5, .int v5), (6, .long v6), (8, .int v8)]) (dk kX8_code 32 rfl) (by decide) rfl ?_
        refine g_iload C (i := 9) 0 rfl (dk kX8_code 33 rfl) ?_
        refine g_if_le C (tgt := 91) (dk kX8_code 34 rfl) (by decide) (fun c4 => ?_) (fun c4 => ?_)
        · replace h := ite_t h c4
          refine g_lload C (i := 6) 7 rfl (dk kX8_code 46 rfl) ?_
          refine g_lstore C (i := 6) (lv' := [(6, .long v6), (9, .int x2), (0, .int v0), (1, .int v1), (2, .int v2), (3, .int v3), (4, .int v4), (5, .int v5), (8, .int v8)]) (dk kX8_code 47 rfl) (by decide) rfl ?_
          obtain ⟨x5, ex5, h⟩ := lt_inv h
          refine g_iinc C (i := 8) (v := x5) (lv' := [(8, .int x5), (6, .long v6), (9, .int x2), (0, .int v0), (1, .int v1), (2, .int v2), (3, .int v3), (4, .int v4), (5, .int v5)]) 8 (dk kX8_code 48 rfl) rfl (by rw [ex5]; rfl) (by decide) rfl ?_
          refine g_goto C (tgt := 6) (dk kX8_code 49 rfl) (by decide) ?_
          exact g_sub [3, 4, 5, 6, 7, 8, 1, 0] rfl (ih v6 x5 y h he)
        · replace h := ite_f h c4
          refine g_ldc2 C (v := 27) (C.w wd_6_53) (dk kX8_code 35 rfl) ?_
          refine g_lload C (i := 6) 7 rfl (dk kX8_code 36 rfl) ?_
          refine g_lmul C (dk kX8_code 37 rfl) ?_
          refine g_iload C (i := 9) 0 rfl (dk kX8_code 38 rfl) ?_
          refine g_i2l C (dk kX8_code 39 rfl) ?_
          refine g_ladd C (dk kX8_code 40 rfl) ?_
          refine g_ldc2 C (v := 97) (C.w wd_6_54) (dk kX8_code 41 rfl) ?_
          refine g_lsub C (dk kX8_code 42 rfl) ?_
          refine g_lconst C (v := 1) (by decide) (dk kX8_code 43 rfl) ?_
          refine g_ladd C (dk kX8_code 44 rfl) ?_
          refine g_goto C (tgt := 93) (dk kX8_code 45 rfl) (by decide) ?_
          obtain ⟨x6, ex6, h⟩ := lt_inv h
          refine g_nml ex6 ?_
          refine g_lstore C (i := 6) (lv' := [(6, .long x6), (9, .int x2), (0, .int v0), (1, .int v1), (2, .int v2), (3, .int v3), (4, .int v4), (5, .int v5), (8, .int v8)]) (dk kX8_code 47 rfl) (by decide) rfl ?_
          obtain ⟨x7, ex7, h⟩ := lt_inv h
          refine g_iinc C (i := 8) (v := x7) (lv' := [(8, .int x7), (6, .long x6), (9, .int x2), (0, .int v0), (1, .int v1), (2, .int v2), (3, .int v3), (4, .int v4), (5, .int v5)]) 8 (dk kX8_code 48 rfl) rfl (by rw [ex7]; rfl) (by decide) rfl ?_
          refine g_goto C (tgt := 6) (dk kX8_code 49 rfl) (by decide) ?_
          exact g_sub [3, 4, 5, 6, 7, 8, 1, 0] rfl (ih x6 x7 y h he)
      clear h
      refine g_if_ne C (tgt := 22) (dk kX8_code 8 rfl) (by decide) (fun c8 => ?_) (fun c8 => ?_)
      · refine g_iload C (i := 8) 7 rfl (dk kX8_code 11 rfl) ?_
        refine g_iconst C (v := 1) (by decide) (dk kX8_code 12 rfl) ?_
        refine g_icmp_ne C (tgt := 32) (dk kX8_code 13 rfl) (by decide) (fun c9 => ?_) (fun c9 => ?_)
        · refine g_iload C (i := 8) 7 rfl (dk kX8_code 16 rfl) ?_
          refine g_iconst C (v := 2) (by decide) (dk kX8_code 17 rfl) ?_
          refine g_icmp_ne C (tgt := 42) (dk kX8_code 18 rfl) (by decide) (fun c10 => ?_) (fun c10 => ?_)
          · refine g_iload C (i := 8) 7 rfl (dk kX8_code 21 rfl) ?_
            refine g_iconst C (v := 3) (by decide) (dk kX8_code 22 rfl) ?_
            refine g_icmp_ne C (tgt := 52) (dk kX8_code 23 rfl) (by decide) (fun c11 => ?_) (fun c11 => ?_)
            · refine g_iload C (i := 8) 7 rfl (dk kX8_code 26 rfl) ?_
              refine g_iconst C (v := 4) (by decide) (dk kX8_code 27 rfl) ?_
              refine g_icmp_ne C (tgt := 63) (dk kX8_code 28 rfl) (by decide) (fun c12 => ?_) (fun c12 => ?_)
              · refine g_iload C (i := 5) 5 rfl (dk kX8_code 31 rfl) ?_
                exact g_nmi (by rw [ex2, if_neg c8, if_neg c9, if_neg c10, if_neg c11, if_neg c12]) kj3
              · refine g_iload C (i := 4) 4 rfl (dk kX8_code 29 rfl) ?_
                refine g_goto C (tgt := 65) (dk kX8_code 30 rfl) (by decide) ?_
                exact g_nmi (by rw [ex2, if_neg c8, if_neg c9, if_neg c10, if_neg c11, if_pos c12]) kj3
            · refine g_iload_n C (i := 3) 3 rfl rfl (dk kX8_code 24 rfl) ?_
              refine g_goto C (tgt := 65) (dk kX8_code 25 rfl) (by decide) ?_
              exact g_nmi (by rw [ex2, if_neg c8, if_neg c9, if_neg c10, if_pos c11]) kj3
          · refine g_iload_n C (i := 2) 2 rfl rfl (dk kX8_code 19 rfl) ?_
            refine g_goto C (tgt := 65) (dk kX8_code 20 rfl) (by decide) ?_
            exact g_nmi (by rw [ex2, if_neg c8, if_neg c9, if_pos c10]) kj3
        · refine g_iload_n C (i := 1) 1 rfl rfl (dk kX8_code 14 rfl) ?_
          refine g_goto C (tgt := 65) (dk kX8_code 15 rfl) (by decide) ?_
          exact g_nmi (by rw [ex2, if_neg c8, if_pos c9]) kj3
      · refine g_iload_n C (i := 0) 0 rfl rfl (dk kX8_code 9 rfl) ?_
        refine g_goto C (tgt := 65) (dk kX8_code 10 rfl) (by decide) ?_
        exact g_nmi (by rw [ex2, if_pos c8]) kj3
set_option maxRecDepth 100000 in
set_option maxHeartbeats 4000000 in
theorem t_X8_code {l : Launch} {Z : ZZ} {X : XX} (μ : Mm) (a0 : Int32) (a1 : Int32) (a2 : Int32) (a3 : Int32) (a4 : Int32) (a5 : Int32) (r : Int64)  (h : f_X8_code a0 a1 a2 a3 a4 a5 = some r) (C : Cx l Z false X cX8_code RX8 10 (some .long)) (E : Ex Z X 0 0 0 (some (.long r)) Z μ) : G Z X 10 0 0 0 [(0, .int a0), (1, .int a1), (2, .int a2), (3, .int a3), (4, .int a4), (5, .int a5)] [] μ := by
  unfold f_X8_code at h
  refine g_lconst C (v := 0) (by decide) (dk kX8_code 0 rfl) ?_
  refine g_lstore C (i := 6) (lv' := [(6, .long 0), (0, .int a0), (1, .int a1), (2, .int a2), (3, .int a3), (4, .int a4), (5, .int a5)]) (dk kX8_code 1 rfl) (by decide) rfl ?_
  refine g_iconst C (v := 0) (by decide) (dk kX8_code 2 rfl) ?_
  refine g_istore C (i := 8) (lv' := [(8, .int 0), (6, .long 0), (0, .int a0), (1, .int a1), (2, .int a2), (3, .int a3), (4, .int a4), (5, .int a5)]) (dk kX8_code 3 rfl) (by decide) rfl ?_
  obtain ⟨q13, eq13, h⟩ := bd_inv h
  refine g_sub [2, 3, 4, 5, 6, 7, 1, 0] (lv' := [(0, .int a0), (1, .int a1), (2, .int a2), (3, .int a3), (4, .int a4), (5, .int a5), (6, .long 0), (8, .int 0)]) rfl ?_
  refine gl_X8_code_6 a0 a1 a2 a3 a4 a5  μ C E.2 FU 0 0 _ eq13 ?_
  obtain ⟨x14, ex14, h⟩ := lt_inv h
  rw [← ex14]
  refine g_lload C (i := 6) 0 rfl (dk kX8_code 50 rfl) ?_
  have h9 := Option.some.inj h
  subst h9
  exact g_lret C E (Nat.le_refl 0) (Nat.le_refl 0) (dk kX8_code 51 rfl)
theorem ct_X8_code {l : Launch} {Z : ZZ} {μ : Mm} {a0 : Int32} {a1 : Int32} {a2 : Int32} {a3 : Int32} {a4 : Int32} {a5 : Int32} {r : Int64}  (h : f_X8_code a0 a1 a2 a3 a4 a5 = some r) : CtM l Z false yX8_code cX8_code 10 (some .long) 0 0 0 [.int a0, .int a1, .int a2, .int a3, .int a4, .int a5] μ (some (.long r)) Z μ := ct_of rfl rfl (Nat.le_of_ble_eq_true rfl) (fun X C E => t_X8_code μ a0 a1 a2 a3 a4 a5 r  h C E)

def qX8_commandOf : List (Nat × Instr × Nat) := [(0, .lload_n 0, 1), (1, .bipush 104, 2), (3, .bipush 101, 2), (5, .bipush 97, 2), (7, .bipush 100, 2), (9, .iconst 0, 1), (10, .iconst 0, 1), (11, .invokestatic 166, 3), (14, .lcmp, 1), (15, .ifCond .ne 5, 3), (18, .iconst 0, 1), (19, .ireturn, 1), (20, .lload_n 0, 1), (21, .bipush 108, 2), (23, .bipush 97, 2), (25, .bipush 98, 2), (27, .bipush 101, 2), (29, .bipush 108, 2), (31, .iconst 0, 1), (32, .invokestatic 166, 3), (35, .lcmp, 1), (36, .ifCond .ne 5, 3), (39, .iconst 1, 1), (40, .ireturn, 1), (41, .lload_n 0, 1), (42, .bipush 114, 2), (44, .bipush 111, 2), (46, .bipush 119, 2), (48, .iconst 0, 1), (49, .iconst 0, 1), (50, .iconst 0, 1), (51, .invokestatic 166, 3), (54, .lcmp, 1), (55, .ifCond .ne 5, 3), (58, .iconst 2, 1), (59, .ireturn, 1), (60, .lload_n 0, 1), (61, .bipush 99, 2), (63, .bipush 108, 2), (65, .bipush 105, 2), (67, .bipush 101, 2), (69, .bipush 110, 2), (71, .bipush 116, 2), (73, .invokestatic 166, 3), (76, .lcmp, 1), (77, .ifCond .ne 5, 3), (80, .iconst 3, 1), (81, .ireturn, 1), (82, .lload_n 0, 1), (83, .bipush 114, 2), (85, .bipush 101, 2), (87, .bipush 110, 2), (89, .bipush 116, 2), (91, .iconst 0, 1), (92, .iconst 0, 1), (93, .invokestatic 166, 3), (96, .lcmp, 1), (97, .ifCond .ne 5, 3), (100, .iconst 4, 1), (101, .ireturn, 1), (102, .lload_n 0, 1), (103, .bipush 112, 2), (105, .bipush 114, 2), (107, .bipush 105, 2), (109, .bipush 110, 2), (111, .bipush 116, 2), (113, .iconst 0, 1), (114, .invokestatic 166, 3), (117, .lcmp, 1), (118, .ifCond .ne 5, 3), (121, .iconst 5, 1), (122, .ireturn, 1), (123, .lload_n 0, 1), (124, .bipush 98, 2), (126, .bipush 101, 2), (128, .bipush 115, 2), (130, .bipush 116, 2), (132, .iconst 0, 1), (133, .iconst 0, 1), (134, .invokestatic 166, 3), (137, .lcmp, 1), (138, .ifCond .ne 6, 3), (141, .bipush 6, 2), (143, .ireturn, 1), (144, .lload_n 0, 1), (145, .bipush 99, 2), (147, .bipush 111, 2), (149, .bipush 111, 2), (151, .bipush 108, 2), (153, .iconst 0, 1), (154, .iconst 0, 1), (155, .invokestatic 166, 3), (158, .lcmp, 1), (159, .ifCond .ne 6, 3), (162, .bipush 7, 2), (164, .ireturn, 1), (165, .lload_n 0, 1), (166, .bipush 110, 2), (168, .bipush 101, 2), (170, .bipush 119, 2), (172, .iconst 0, 1), (173, .iconst 0, 1), (174, .iconst 0, 1), (175, .invokestatic 166, 3), (178, .lcmp, 1), (179, .ifCond .ne 8, 3), (182, .bipush 8, 2), (184, .goto 26, 3), (187, .lload_n 0, 1), (188, .bipush 115, 2), (190, .bipush 101, 2), (192, .bipush 116, 2), (194, .iconst 0, 1), (195, .iconst 0, 1), (196, .iconst 0, 1), (197, .invokestatic 166, 3), (200, .lcmp, 1), (201, .ifCond .ne 8, 3), (204, .bipush 9, 2), (206, .goto 4, 3), (209, .iconst (-1), 1), (210, .ireturn, 1)]
theorem kX8_commandOf : ∀ q ∈ qX8_commandOf, decode cX8_commandOf q.1 = .ok q.2 := by decide +kernel
def f_X8_commandOf (a0 : Int64) : Option (Int32) :=
  bd (f_X8_code 104 101 97 100 0 0) fun x2 => if (lg_cmp a0 x2) = 0 then (some 0) else (bd (f_X8_code 108 97 98 101 108 0) fun x5 => if (lg_cmp a0 x5) = 0 then (some 1) else (bd (f_X8_code 114 111 119 0 0 0) fun x8 => if (lg_cmp a0 x8) = 0 then (some 2) else (bd (f_X8_code 99 108 105 101 110 116) fun x11 => if (lg_cmp a0 x11) = 0 then (some 3) else (bd (f_X8_code 114 101 110 116 0 0) fun x14 => if (lg_cmp a0 x14) = 0 then (some 4) else (bd (f_X8_code 112 114 105 110 116 0) fun x17 => if (lg_cmp a0 x17) = 0 then (some 5) else (bd (f_X8_code 98 101 115 116 0 0) fun x20 => if (lg_cmp a0 x20) = 0 then (some 6) else (bd (f_X8_code 99 111 111 108 0 0) fun x23 => if (lg_cmp a0 x23) = 0 then (some 7) else (bd (f_X8_code 110 101 119 0 0 0) fun x26 => if (lg_cmp a0 x26) = 0 then (some 8) else (bd (f_X8_code 115 101 116 0 0 0) fun x29 => lt1 (α := Int32) (if (lg_cmp a0 x29) = 0 then 9 else (-1)) fun x30 => some x30)))))))))
set_option maxRecDepth 100000 in
set_option maxHeartbeats 4000000 in
theorem t_X8_commandOf {l : Launch} {Z : ZZ} {X : XX} (μ : Mm) (a0 : Int64) (r : Int32)  (h : f_X8_commandOf a0 = some r) (C : Cx l Z false X cX8_commandOf RX8 2 (some .int)) (E : Ex Z X 1 0 0 (some (.int r)) Z μ) : G Z X 2 0 0 0 [(0, .long a0)] [] μ := by
  unfold f_X8_commandOf at h
  refine g_lload_n C (i := 0) 0 rfl rfl (dk kX8_commandOf 0 rfl) ?_
  refine g_bipush C (v := 104) (by decide) (dk kX8_commandOf 1 rfl) ?_
  refine g_bipush C (v := 101) (by decide) (dk kX8_commandOf 2 rfl) ?_
  refine g_bipush C (v := 97) (by decide) (dk kX8_commandOf 3 rfl) ?_
  refine g_bipush C (v := 100) (by decide) (dk kX8_commandOf 4 rfl) ?_
  refine g_iconst C (v := 0) (by decide) (dk kX8_commandOf 5 rfl) ?_
  refine g_iconst C (v := 0) (by decide) (dk kX8_commandOf 6 rfl) ?_
  obtain ⟨x2, eq1, h⟩ := bd_inv h
  refine g_callS C E.2 (rest := [.long a0]) 6 (ct_X8_code  eq1) wd_6_58 mm_X8_code ⟨by decide, by decide, by decide⟩ rfl (by decide) rfl (Nat.le_of_ble_eq_true rfl) (by decide) (dk kX8_commandOf 7 rfl) ?_
  refine g_lcmp C (dk kX8_commandOf 8 rfl) ?_
  refine g_if_ne C (tgt := 20) (dk kX8_commandOf 9 rfl) (by decide) (fun c3 => ?_) (fun c3 => ?_)
  · replace h := ite_f h c3
    refine g_lload_n C (i := 0) 0 rfl rfl (dk kX8_commandOf 12 rfl) ?_
    refine g_bipush C (v := 108) (by decide) (dk kX8_commandOf 13 rfl) ?_
    refine g_bipush C (v := 97) (by decide) (dk kX8_commandOf 14 rfl) ?_
    refine g_bipush C (v := 98) (by decide) (dk kX8_commandOf 15 rfl) ?_
    refine g_bipush C (v := 101) (by decide) (dk kX8_commandOf 16 rfl) ?_
    refine g_bipush C (v := 108) (by decide) (dk kX8_commandOf 17 rfl) ?_
    refine g_iconst C (v := 0) (by decide) (dk kX8_commandOf 18 rfl) ?_
    obtain ⟨x5, eq4, h⟩ := bd_inv h
    refine g_callS C E.2 (rest := [.long a0]) 6 (ct_X8_code  eq4) wd_6_58 mm_X8_code ⟨by decide, by decide, by decide⟩ rfl (by decide) rfl (Nat.le_of_ble_eq_true rfl) (by decide) (dk kX8_commandOf 19 rfl) ?_
    refine g_lcmp C (dk kX8_commandOf 20 rfl) ?_
    refine g_if_ne C (tgt := 41) (dk kX8_commandOf 21 rfl) (by decide) (fun c6 => ?_) (fun c6 => ?_)
    · replace h := ite_f h c6
      refine g_lload_n C (i := 0) 0 rfl rfl (dk kX8_commandOf 24 rfl) ?_
      refine g_bipush C (v := 114) (by decide) (dk kX8_commandOf 25 rfl) ?_
      refine g_bipush C (v := 111) (by decide) (dk kX8_commandOf 26 rfl) ?_
      refine g_bipush C (v := 119) (by decide) (dk kX8_commandOf 27 rfl) ?_
      refine g_iconst C (v := 0) (by decide) (dk kX8_commandOf 28 rfl) ?_
      refine g_iconst C (v := 0) (by decide) (dk kX8_commandOf 29 rfl) ?_
      refine g_iconst C (v := 0) (by decide) (dk kX8_commandOf 30 rfl) ?_
      obtain ⟨x8, eq7, h⟩ := bd_inv h
      refine g_callS C E.2 (rest := [.long a0]) 6 (ct_X8_code  eq7) wd_6_58 mm_X8_code ⟨by decide, by decide, by decide⟩ rfl (by decide) rfl (Nat.le_of_ble_eq_true rfl) (by decide) (dk kX8_commandOf 31 rfl) ?_
      refine g_lcmp C (dk kX8_commandOf 32 rfl) ?_
      refine g_if_ne C (tgt := 60) (dk kX8_commandOf 33 rfl) (by decide) (fun c9 => ?_) (fun c9 => ?_)
      · replace h := ite_f h c9
        refine g_lload_n C (i := 0) 0 rfl rfl (dk kX8_commandOf 36 rfl) ?_
        refine g_bipush C (v := 99) (by decide) (dk kX8_commandOf 37 rfl) ?_
        refine g_bipush C (v := 108) (by decide) (dk kX8_commandOf 38 rfl) ?_
        refine g_bipush C (v := 105) (by decide) (dk kX8_commandOf 39 rfl) ?_
        refine g_bipush C (v := 101) (by decide) (dk kX8_commandOf 40 rfl) ?_
        refine g_bipush C (v := 110) (by decide) (dk kX8_commandOf 41 rfl) ?_
        refine g_bipush C (v := 116) (by decide) (dk kX8_commandOf 42 rfl) ?_
        obtain ⟨x11, eq10, h⟩ := bd_inv h
        refine g_callS C E.2 (rest := [.long a0]) 6 (ct_X8_code  eq10) wd_6_58 mm_X8_code ⟨by decide, by decide, by decide⟩ rfl (by decide) rfl (Nat.le_of_ble_eq_true rfl) (by decide) (dk kX8_commandOf 43 rfl) ?_
        refine g_lcmp C (dk kX8_commandOf 44 rfl) ?_
        refine g_if_ne C (tgt := 82) (dk kX8_commandOf 45 rfl) (by decide) (fun c12 => ?_) (fun c12 => ?_)
        · replace h := ite_f h c12
          refine g_lload_n C (i := 0) 0 rfl rfl (dk kX8_commandOf 48 rfl) ?_
          refine g_bipush C (v := 114) (by decide) (dk kX8_commandOf 49 rfl) ?_
          refine g_bipush C (v := 101) (by decide) (dk kX8_commandOf 50 rfl) ?_
          refine g_bipush C (v := 110) (by decide) (dk kX8_commandOf 51 rfl) ?_
          refine g_bipush C (v := 116) (by decide) (dk kX8_commandOf 52 rfl) ?_
          refine g_iconst C (v := 0) (by decide) (dk kX8_commandOf 53 rfl) ?_
          refine g_iconst C (v := 0) (by decide) (dk kX8_commandOf 54 rfl) ?_
          obtain ⟨x14, eq13, h⟩ := bd_inv h
          refine g_callS C E.2 (rest := [.long a0]) 6 (ct_X8_code  eq13) wd_6_58 mm_X8_code ⟨by decide, by decide, by decide⟩ rfl (by decide) rfl (Nat.le_of_ble_eq_true rfl) (by decide) (dk kX8_commandOf 55 rfl) ?_
          refine g_lcmp C (dk kX8_commandOf 56 rfl) ?_
          refine g_if_ne C (tgt := 102) (dk kX8_commandOf 57 rfl) (by decide) (fun c15 => ?_) (fun c15 => ?_)
          · replace h := ite_f h c15
            refine g_lload_n C (i := 0) 0 rfl rfl (dk kX8_commandOf 60 rfl) ?_
            refine g_bipush C (v := 112) (by decide) (dk kX8_commandOf 61 rfl) ?_
            refine g_bipush C (v := 114) (by decide) (dk kX8_commandOf 62 rfl) ?_
            refine g_bipush C (v := 105) (by decide) (dk kX8_commandOf 63 rfl) ?_
            refine g_bipush C (v := 110) (by decide) (dk kX8_commandOf 64 rfl) ?_
            refine g_bipush C (v := 116) (by decide) (dk kX8_commandOf 65 rfl) ?_
            refine g_iconst C (v := 0) (by decide) (dk kX8_commandOf 66 rfl) ?_
            obtain ⟨x17, eq16, h⟩ := bd_inv h
            refine g_callS C E.2 (rest := [.long a0]) 6 (ct_X8_code  eq16) wd_6_58 mm_X8_code ⟨by decide, by decide, by decide⟩ rfl (by decide) rfl (Nat.le_of_ble_eq_true rfl) (by decide) (dk kX8_commandOf 67 rfl) ?_
            refine g_lcmp C (dk kX8_commandOf 68 rfl) ?_
            refine g_if_ne C (tgt := 123) (dk kX8_commandOf 69 rfl) (by decide) (fun c18 => ?_) (fun c18 => ?_)
            · replace h := ite_f h c18
              refine g_lload_n C (i := 0) 0 rfl rfl (dk kX8_commandOf 72 rfl) ?_
              refine g_bipush C (v := 98) (by decide) (dk kX8_commandOf 73 rfl) ?_
              refine g_bipush C (v := 101) (by decide) (dk kX8_commandOf 74 rfl) ?_
              refine g_bipush C (v := 115) (by decide) (dk kX8_commandOf 75 rfl) ?_
              refine g_bipush C (v := 116) (by decide) (dk kX8_commandOf 76 rfl) ?_
              refine g_iconst C (v := 0) (by decide) (dk kX8_commandOf 77 rfl) ?_
              refine g_iconst C (v := 0) (by decide) (dk kX8_commandOf 78 rfl) ?_
              obtain ⟨x20, eq19, h⟩ := bd_inv h
              refine g_callS C E.2 (rest := [.long a0]) 6 (ct_X8_code  eq19) wd_6_58 mm_X8_code ⟨by decide, by decide, by decide⟩ rfl (by decide) rfl (Nat.le_of_ble_eq_true rfl) (by decide) (dk kX8_commandOf 79 rfl) ?_
              refine g_lcmp C (dk kX8_commandOf 80 rfl) ?_
              refine g_if_ne C (tgt := 144) (dk kX8_commandOf 81 rfl) (by decide) (fun c21 => ?_) (fun c21 => ?_)
              · replace h := ite_f h c21
                refine g_lload_n C (i := 0) 0 rfl rfl (dk kX8_commandOf 84 rfl) ?_
                refine g_bipush C (v := 99) (by decide) (dk kX8_commandOf 85 rfl) ?_
                refine g_bipush C (v := 111) (by decide) (dk kX8_commandOf 86 rfl) ?_
                refine g_bipush C (v := 111) (by decide) (dk kX8_commandOf 87 rfl) ?_
                refine g_bipush C (v := 108) (by decide) (dk kX8_commandOf 88 rfl) ?_
                refine g_iconst C (v := 0) (by decide) (dk kX8_commandOf 89 rfl) ?_
                refine g_iconst C (v := 0) (by decide) (dk kX8_commandOf 90 rfl) ?_
                obtain ⟨x23, eq22, h⟩ := bd_inv h
                refine g_callS C E.2 (rest := [.long a0]) 6 (ct_X8_code  eq22) wd_6_58 mm_X8_code ⟨by decide, by decide, by decide⟩ rfl (by decide) rfl (Nat.le_of_ble_eq_true rfl) (by decide) (dk kX8_commandOf 91 rfl) ?_
                refine g_lcmp C (dk kX8_commandOf 92 rfl) ?_
                refine g_if_ne C (tgt := 165) (dk kX8_commandOf 93 rfl) (by decide) (fun c24 => ?_) (fun c24 => ?_)
                · replace h := ite_f h c24
                  refine g_lload_n C (i := 0) 0 rfl rfl (dk kX8_commandOf 96 rfl) ?_
                  refine g_bipush C (v := 110) (by decide) (dk kX8_commandOf 97 rfl) ?_
                  refine g_bipush C (v := 101) (by decide) (dk kX8_commandOf 98 rfl) ?_
                  refine g_bipush C (v := 119) (by decide) (dk kX8_commandOf 99 rfl) ?_
                  refine g_iconst C (v := 0) (by decide) (dk kX8_commandOf 100 rfl) ?_
                  refine g_iconst C (v := 0) (by decide) (dk kX8_commandOf 101 rfl) ?_
                  refine g_iconst C (v := 0) (by decide) (dk kX8_commandOf 102 rfl) ?_
                  obtain ⟨x26, eq25, h⟩ := bd_inv h
                  refine g_callS C E.2 (rest := [.long a0]) 6 (ct_X8_code  eq25) wd_6_58 mm_X8_code ⟨by decide, by decide, by decide⟩ rfl (by decide) rfl (Nat.le_of_ble_eq_true rfl) (by decide) (dk kX8_commandOf 103 rfl) ?_
                  refine g_lcmp C (dk kX8_commandOf 104 rfl) ?_
                  refine g_if_ne C (tgt := 187) (dk kX8_commandOf 105 rfl) (by decide) (fun c27 => ?_) (fun c27 => ?_)
                  · replace h := ite_f h c27
                    refine g_lload_n C (i := 0) 0 rfl rfl (dk kX8_commandOf 108 rfl) ?_
                    refine g_bipush C (v := 115) (by decide) (dk kX8_commandOf 109 rfl) ?_
                    refine g_bipush C (v := 101) (by decide) (dk kX8_commandOf 110 rfl) ?_
                    refine g_bipush C (v := 116) (by decide) (dk kX8_commandOf 111 rfl) ?_
                    refine g_iconst C (v := 0) (by decide) (dk kX8_commandOf 112 rfl) ?_
                    refine g_iconst C (v := 0) (by decide) (dk kX8_commandOf 113 rfl) ?_
                    refine g_iconst C (v := 0) (by decide) (dk kX8_commandOf 114 rfl) ?_
                    obtain ⟨x29, eq28, h⟩ := bd_inv h
                    refine g_callS C E.2 (rest := [.long a0]) 6 (ct_X8_code  eq28) wd_6_58 mm_X8_code ⟨by decide, by decide, by decide⟩ rfl (by decide) rfl (Nat.le_of_ble_eq_true rfl) (by decide) (dk kX8_commandOf 115 rfl) ?_
                    refine g_lcmp C (dk kX8_commandOf 116 rfl) ?_
                    obtain ⟨x30, ex30, h⟩ := lt_inv h
                    have kj31 : G Z X 2 0 0 210 [(0, .long a0)] [.int x30] μ := by
                      have h9 := Option.some.inj h
                      subst h9
                      exact g_iret C E rfl rfl (Nat.le_refl 0) (Nat.le_refl 0) (dk kX8_commandOf 121 rfl)
                    clear h
                    refine g_if_ne C (tgt := 209) (dk kX8_commandOf 117 rfl) (by decide) (fun c32 => ?_) (fun c32 => ?_)
                    · refine g_iconst C (v := (-1)) (by decide) (dk kX8_commandOf 120 rfl) ?_
                      exact g_nmi (by rw [ex30, if_neg c32]) kj31
                    · refine g_bipush C (v := 9) (by decide) (dk kX8_commandOf 118 rfl) ?_
                      refine g_goto C (tgt := 210) (dk kX8_commandOf 119 rfl) (by decide) ?_
                      exact g_nmi (by rw [ex30, if_pos c32]) kj31
                  · replace h := ite_t h c27
                    refine g_bipush C (v := 8) (by decide) (dk kX8_commandOf 106 rfl) ?_
                    refine g_goto C (tgt := 210) (dk kX8_commandOf 107 rfl) (by decide) ?_
                    have h9 := Option.some.inj h
                    subst h9
                    exact g_iret C E rfl rfl (Nat.le_refl 0) (Nat.le_refl 0) (dk kX8_commandOf 121 rfl)
                · replace h := ite_t h c24
                  refine g_bipush C (v := 7) (by decide) (dk kX8_commandOf 94 rfl) ?_
                  have h9 := Option.some.inj h
                  subst h9
                  exact g_iret C E rfl rfl (Nat.le_refl 0) (Nat.le_refl 0) (dk kX8_commandOf 95 rfl)
              · replace h := ite_t h c21
                refine g_bipush C (v := 6) (by decide) (dk kX8_commandOf 82 rfl) ?_
                have h9 := Option.some.inj h
                subst h9
                exact g_iret C E rfl rfl (Nat.le_refl 0) (Nat.le_refl 0) (dk kX8_commandOf 83 rfl)
            · replace h := ite_t h c18
              refine g_iconst C (v := 5) (by decide) (dk kX8_commandOf 70 rfl) ?_
              have h9 := Option.some.inj h
              subst h9
              exact g_iret C E rfl rfl (Nat.le_refl 0) (Nat.le_refl 0) (dk kX8_commandOf 71 rfl)
          · replace h := ite_t h c15
            refine g_iconst C (v := 4) (by decide) (dk kX8_commandOf 58 rfl) ?_
            have h9 := Option.some.inj h
            subst h9
            exact g_iret C E rfl rfl (Nat.le_refl 0) (Nat.le_refl 0) (dk kX8_commandOf 59 rfl)
        · replace h := ite_t h c12
          refine g_iconst C (v := 3) (by decide) (dk kX8_commandOf 46 rfl) ?_
          have h9 := Option.some.inj h
          subst h9
          exact g_iret C E rfl rfl (Nat.le_refl 0) (Nat.le_refl 0) (dk kX8_commandOf 47 rfl)
      · replace h := ite_t h c9
        refine g_iconst C (v := 2) (by decide) (dk kX8_commandOf 34 rfl) ?_
        have h9 := Option.some.inj h
        subst h9
        exact g_iret C E rfl rfl (Nat.le_refl 0) (Nat.le_refl 0) (dk kX8_commandOf 35 rfl)
    · replace h := ite_t h c6
      refine g_iconst C (v := 1) (by decide) (dk kX8_commandOf 22 rfl) ?_
      have h9 := Option.some.inj h
      subst h9
      exact g_iret C E rfl rfl (Nat.le_refl 0) (Nat.le_refl 0) (dk kX8_commandOf 23 rfl)
  · replace h := ite_t h c3
    refine g_iconst C (v := 0) (by decide) (dk kX8_commandOf 10 rfl) ?_
    have h9 := Option.some.inj h
    subst h9
    exact g_iret C E rfl rfl (Nat.le_refl 0) (Nat.le_refl 0) (dk kX8_commandOf 11 rfl)
theorem ct_X8_commandOf {l : Launch} {Z : ZZ} {μ : Mm} {a0 : Int64} {r : Int32}  (h : f_X8_commandOf a0 = some r) : CtM l Z false yX8_commandOf cX8_commandOf 2 (some .int) 1 0 0 [.long a0] μ (some (.int r)) Z μ := ct_of rfl rfl (Nat.le_of_ble_eq_true rfl) (fun X C E => t_X8_commandOf μ a0 r  h C E)

def qX8_cool : List (Nat × Instr × Nat) := [(0, .aload_n 0, 1), (1, .iload_n 1, 1), (2, .iconst 1, 1), (3, .bipush 20, 2), (5, .invokestatic 36, 3), (8, .ifCond .eq 7, 3), (11, .iconst 0, 1), (12, .goto 4, 3), (15, .iconst 1, 1), (16, .invokevirtual 44, 3), (19, .ifCond .eq 5, 3), (22, .iconst 0, 1), (23, .ireturn, 1), (24, .aload_n 0, 1), (25, .invokevirtual 48, 3), (28, .iconst 0, 1), (29, .istore_n 2, 1), (30, .iload_n 2, 1), (31, .iload_n 1, 1), (32, .if_icmp .ge 16, 3), (35, .aload_n 0, 1), (36, .getfield 7, 3), (39, .invokestatic 75, 3), (42, .iinc 2 1, 3), (45, .goto (-15), 3), (48, .aload_n 0, 1), (49, .iconst 0, 1), (50, .invokevirtual 51, 3), (53, .ireturn, 1)]
theorem kX8_cool : ∀ q ∈ qX8_cool, decode cX8_cool q.1 = .ok q.2 := by decide +kernel
def f_X8_cool_l30 (K : Nat → Nat × Nat) (v0 : Nat) (v1 : Int32) : Nat → Mm → Int32 → Option (Mm)
  | 0, _, _ => none
  | n + 1, μ, v2 => if v1 ≤ v2 then (some μ) else (bd (rf K μ v0 0 8) fun b12 => bd (f_X8_cools K μ b12) fun μ14 => lt1 (α := Int32) (v2 + 1) fun x15 => f_X8_cool_l30 K v0 v1 n μ14 x15)
def f_X8_cool (K : Nat → Nat × Nat) (μ : Mm) (a0 : Nat) (a1 : Int32) : Option (Int32 × Mm) :=
  bd (f_X8_in a1 1 20) fun x2 => lt1 (α := Int32) (if x2 = 0 then 1 else 0) fun x3 => bd (f_X8_throwsAt K μ a0 x3) fun q5 => lt1 q5.1 fun x7 => lt1 q5.2 fun μ6 => if x7 = 0 then (bd (f_X8_saves K μ6 a0) fun μ10 => bd (f_X8_cool_l30 K a0 a1 FU μ10 0) fun q16 => lt1 q16 fun μ17 => bd (f_X8_sumOf K μ17 a0 0) fun x19 => some (x19, μ17)) else (some (0, μ6))
set_option maxRecDepth 100000 in
set_option maxHeartbeats 4000000 in
theorem gl_X8_cool_30 {l : Launch} {Z : ZZ} {X : XX} (v0 : Nat) (v1 : Int32) (k0 : (zk Z v0).1 = 6) (C : Cx l Z false X cX8_cool RX8 3 (some .int)) (E : xR X = rmm 2 0 0) : ∀ (n : Nat) (μ : Mm) (v2 : Int32) (y : Mm), f_X8_cool_l30 (zk Z) v0 v1 n μ v2 = some y → G Z X 3 0 0 48 [(0, .ref (za Z v0))] [] y → G Z X 3 0 0 30 [(0, .ref (za Z v0)), (1, .int v1), (2, .int v2)] [] μ := by
  intro n
  induction n with
  | zero => intro μ v2 y h he; unfold f_X8_cool_l30 at h; cases h
  | succ n ih =>
    intro μ v2 y h he
    unfold f_X8_cool_l30 at h
    refine g_iload_n C (i := 2) 2 rfl rfl (dk kX8_cool 17 rfl) ?_
    refine g_iload_n C (i := 1) 1 rfl rfl (dk kX8_cool 18 rfl) ?_
    refine g_icmp_ge C (tgt := 48) (dk kX8_cool 19 rfl) (by decide) (fun c11 => ?_) (fun c11 => ?_)
    · replace h := ite_t h c11
      cases h
      exact g_sub [0] rfl he
    · replace h := ite_f h c11
      refine g_aload_n C (i := 0) 0 rfl rfl (dk kX8_cool 20 rfl) ?_
      obtain ⟨b12, eb12, h⟩ := bd_inv h
      obtain ⟨rb12, kb12⟩ := rf_inv eb12
      refine gR_6_0 C k0 (C.w wd_5_3) rb12 (dk kX8_cool 21 rfl) ?_
      obtain ⟨μ14, eq13, h⟩ := bd_inv h
      refine g_callS C E (rest := []) 1 (ct_X8_cools kb12 eq13) wd_5_105 mm_X8_cools ⟨by decide, by decide, by decide⟩ rfl (by decide) rfl (Nat.le_of_ble_eq_true rfl) (by decide) (dk kX8_cool 22 rfl) ?_
      obtain ⟨x15, ex15, h⟩ := lt_inv h
      refine g_iinc C (i := 2) (v := x15) (lv' := [(2, .int x15), (0, .ref (za Z v0)), (1, .int v1)]) 2 (dk kX8_cool 23 rfl) rfl (by rw [ex15]; rfl) (by decide) rfl ?_
      refine g_goto C (tgt := 30) (dk kX8_cool 24 rfl) (by decide) ?_
      exact g_sub [1, 2, 0] rfl (ih μ14 x15 y h he)
set_option maxRecDepth 100000 in
set_option maxHeartbeats 4000000 in
theorem t_X8_cool {l : Launch} {Z : ZZ} {X : XX} (μ : Mm) (a0 : Nat) (a1 : Int32) (r : Int32) (μ' : Mm) (k0 : (zk Z a0).1 = 6) (h : f_X8_cool (zk Z) μ a0 a1 = some (r, μ')) (C : Cx l Z false X cX8_cool RX8 3 (some .int)) (E : Ex Z X 2 0 0 (some (.int r)) Z μ') : G Z X 3 0 0 0 [(0, .ref (za Z a0)), (1, .int a1)] [] μ := by
  unfold f_X8_cool at h
  refine g_aload_n C (i := 0) 0 rfl rfl (dk kX8_cool 0 rfl) ?_
  refine g_iload_n C (i := 1) 1 rfl rfl (dk kX8_cool 1 rfl) ?_
  refine g_iconst C (v := 1) (by decide) (dk kX8_cool 2 rfl) ?_
  refine g_bipush C (v := 20) (by decide) (dk kX8_cool 3 rfl) ?_
  obtain ⟨x2, eq1, h⟩ := bd_inv h
  refine g_callS C E.2 (rest := [.ref (za Z a0)]) 3 (ct_X8_in  eq1) wd_5_45 mm_X8_in ⟨by decide, by decide, by decide⟩ rfl (by decide) rfl (Nat.le_of_ble_eq_true rfl) (by decide) (dk kX8_cool 4 rfl) ?_
  obtain ⟨x3, ex3, h⟩ := lt_inv h
  have kj4 : G Z X 3 0 0 16 [(0, .ref (za Z a0)), (1, .int a1)] [.int x3, .ref (za Z a0)] μ := by
    obtain ⟨q5, eq5, h⟩ := bd_inv h
    obtain ⟨x7, ex7, h⟩ := lt_inv h
    obtain ⟨μ6, eμ6, h⟩ := lt_inv h
    rw [show q5 = (x7, μ6) from by rw [ex7, eμ6]] at eq5
    refine g_callV C E.2 (rest := []) 1 (ct_X8_throwsAt k0 eq5) wd_5_48 mm_X8_throwsAt ⟨rfl, by decide, by decide, by decide⟩ rfl (by decide) k0 (by decide) rfl rfl (Nat.le_of_ble_eq_true rfl) (by decide) (dk kX8_cool 9 rfl) ?_
    refine g_if_eq C (tgt := 24) (dk kX8_cool 10 rfl) (by decide) (fun c8 => ?_) (fun c8 => ?_)
    · replace h := ite_t h c8
      refine g_aload_n C (i := 0) 0 rfl rfl (dk kX8_cool 13 rfl) ?_
      obtain ⟨μ10, eq9, h⟩ := bd_inv h
      refine g_callV C E.2 (rest := []) 0 (ct_X8_saves k0 eq9) wd_5_52 mm_X8_saves ⟨rfl, by decide, by decide, by decide⟩ rfl (by decide) k0 (by decide) rfl rfl (Nat.le_of_ble_eq_true rfl) (by decide) (dk kX8_cool 14 rfl) ?_
      refine g_iconst C (v := 0) (by decide) (dk kX8_cool 15 rfl) ?_
      refine g_istore_n C (i := 2) (lv' := [(2, .int 0), (0, .ref (za Z a0)), (1, .int a1)]) (dk kX8_cool 16 rfl) rfl (by decide) rfl ?_
      obtain ⟨q16, eq16, h⟩ := bd_inv h
      refine g_sub [1, 2, 0] (lv' := [(0, .ref (za Z a0)), (1, .int a1), (2, .int 0)]) rfl ?_
      refine gl_X8_cool_30 a0 a1 k0 C E.2 FU μ10 0 _ eq16 ?_
      obtain ⟨μ17, eμ17, h⟩ := lt_inv h
      rw [← eμ17]
      refine g_aload_n C (i := 0) 0 rfl rfl (dk kX8_cool 25 rfl) ?_
      refine g_iconst C (v := 0) (by decide) (dk kX8_cool 26 rfl) ?_
      obtain ⟨x19, eq18, h⟩ := bd_inv h
      refine g_callV C E.2 (rest := []) 1 (ct_X8_sumOf k0 eq18) wd_5_56 mm_X8_sumOf ⟨rfl, by decide, by decide, by decide⟩ rfl (by decide) k0 (by decide) rfl rfl (Nat.le_of_ble_eq_true rfl) (by decide) (dk kX8_cool 27 rfl) ?_
      obtain ⟨h8, h9⟩ := Prod.mk.inj (Option.some.inj h)
      subst h8
      subst h9
      exact g_iret C E rfl rfl (Nat.le_refl 0) (Nat.le_refl 0) (dk kX8_cool 28 rfl)
    · replace h := ite_f h c8
      refine g_iconst C (v := 0) (by decide) (dk kX8_cool 11 rfl) ?_
      obtain ⟨h8, h9⟩ := Prod.mk.inj (Option.some.inj h)
      subst h8
      subst h9
      exact g_iret C E rfl rfl (Nat.le_refl 0) (Nat.le_refl 0) (dk kX8_cool 12 rfl)
  clear h
  refine g_if_eq C (tgt := 15) (dk kX8_cool 5 rfl) (by decide) (fun c20 => ?_) (fun c20 => ?_)
  · refine g_iconst C (v := 1) (by decide) (dk kX8_cool 8 rfl) ?_
    exact g_nmi (by rw [ex3, if_pos c20]) kj4
  · refine g_iconst C (v := 0) (by decide) (dk kX8_cool 6 rfl) ?_
    refine g_goto C (tgt := 16) (dk kX8_cool 7 rfl) (by decide) ?_
    exact g_nmi (by rw [ex3, if_neg c20]) kj4
theorem ct_X8_cool {l : Launch} {Z : ZZ} {μ : Mm} {a0 : Nat} {a1 : Int32} {r : Int32} {μ' : Mm} (k0 : (zk Z a0).1 = 6) (h : f_X8_cool (zk Z) μ a0 a1 = some (r, μ')) : CtM l Z false yX8_cool cX8_cool 3 (some .int) 2 0 0 [.ref (za Z a0), .int a1] μ (some (.int r)) Z μ' := ct_of rfl rfl (Nat.le_of_ble_eq_true rfl) (fun X C E => t_X8_cool μ a0 a1 r μ' k0 h C E)

def qX8_customer : List (Nat × Instr × Nat) := [(0, .aload_n 0, 1), (1, .aload_n 0, 1), (2, .iload_n 1, 1), (3, .invokevirtual 85, 3), (6, .ifCond .ne 7, 3), (9, .iconst 1, 1), (10, .goto 17, 3), (13, .iload_n 2, 1), (14, .iconst 0, 1), (15, .iconst 5, 1), (16, .invokestatic 36, 3), (19, .ifCond .eq 7, 3), (22, .iconst 0, 1), (23, .goto 4, 3), (26, .iconst 2, 1), (27, .invokevirtual 44, 3), (30, .ifCond .eq 7, 3), (33, .iconst 0, 1), (34, .goto 9, 3), (37, .aload_n 0, 1), (38, .iload_n 1, 1), (39, .iload_n 2, 1), (40, .invokevirtual 79, 3), (43, .ireturn, 1)]
theorem kX8_customer : ∀ q ∈ qX8_customer, decode cX8_customer q.1 = .ok q.2 := by decide +kernel
def f_X8_customer (K : Nat → Nat × Nat) (μ : Mm) (a0 : Nat) (a1 : Int32) (a2 : Int32) : Option (Int32 × Mm) :=
  bd (f_X8_isCustomer K μ a0 a1) fun x2 => if x2 = 0 then (bd (f_X8_throwsAt K μ a0 1) fun q15 => lt1 q15.1 fun x17 => lt1 q15.2 fun μ16 => if x17 = 0 then (bd (f_X8_customerOf K μ16 a0 a1 a2) fun x20 => some (x20, μ16)) else (some (0, μ16))) else (bd (f_X8_in a2 0 5) fun x5 => lt1 (α := Int32) (if x5 = 0 then 2 else 0) fun x6 => bd (f_X8_throwsAt K μ a0 x6) fun q8 => lt1 q8.1 fun x10 => lt1 q8.2 fun μ9 => if x10 = 0 then (bd (f_X8_customerOf K μ9 a0 a1 a2) fun x13 => some (x13, μ9)) else (some (0, μ9)))
set_option maxRecDepth 100000 in
set_option maxHeartbeats 4000000 in
theorem t_X8_customer {l : Launch} {Z : ZZ} {X : XX} (μ : Mm) (a0 : Nat) (a1 : Int32) (a2 : Int32) (r : Int32) (μ' : Mm) (k0 : (zk Z a0).1 = 6) (h : f_X8_customer (zk Z) μ a0 a1 a2 = some (r, μ')) (C : Cx l Z false X cX8_customer RX8 3 (some .int)) (E : Ex Z X 2 0 0 (some (.int r)) Z μ') : G Z X 3 0 0 0 [(0, .ref (za Z a0)), (1, .int a1), (2, .int a2)] [] μ := by
  unfold f_X8_customer at h
  refine g_aload_n C (i := 0) 0 rfl rfl (dk kX8_customer 0 rfl) ?_
  refine g_aload_n C (i := 0) 0 rfl rfl (dk kX8_customer 1 rfl) ?_
  refine g_iload_n C (i := 1) 1 rfl rfl (dk kX8_customer 2 rfl) ?_
  obtain ⟨x2, eq1, h⟩ := bd_inv h
  refine g_callV C E.2 (rest := [.ref (za Z a0)]) 1 (ct_X8_isCustomer k0 eq1) wd_5_116 mm_X8_isCustomer ⟨rfl, by decide, by decide, by decide⟩ rfl (by decide) k0 (by decide) rfl rfl (Nat.le_of_ble_eq_true rfl) (by decide) (dk kX8_customer 3 rfl) ?_
  refine g_if_ne C (tgt := 13) (dk kX8_customer 4 rfl) (by decide) (fun c3 => ?_) (fun c3 => ?_)
  · replace h := ite_f h c3
    refine g_iload_n C (i := 2) 2 rfl rfl (dk kX8_customer 7 rfl) ?_
    refine g_iconst C (v := 0) (by decide) (dk kX8_customer 8 rfl) ?_
    refine g_iconst C (v := 5) (by decide) (dk kX8_customer 9 rfl) ?_
    obtain ⟨x5, eq4, h⟩ := bd_inv h
    refine g_callS C E.2 (rest := [.ref (za Z a0)]) 3 (ct_X8_in  eq4) wd_5_45 mm_X8_in ⟨by decide, by decide, by decide⟩ rfl (by decide) rfl (Nat.le_of_ble_eq_true rfl) (by decide) (dk kX8_customer 10 rfl) ?_
    obtain ⟨x6, ex6, h⟩ := lt_inv h
    have kj7 : G Z X 3 0 0 27 [(0, .ref (za Z a0)), (1, .int a1), (2, .int a2)] [.int x6, .ref (za Z a0)] μ := by
      obtain ⟨q8, eq8, h⟩ := bd_inv h
      obtain ⟨x10, ex10, h⟩ := lt_inv h
      obtain ⟨μ9, eμ9, h⟩ := lt_inv h
      rw [show q8 = (x10, μ9) from by rw [ex10, eμ9]] at eq8
      refine g_callV C E.2 (rest := []) 1 (ct_X8_throwsAt k0 eq8) wd_5_48 mm_X8_throwsAt ⟨rfl, by decide, by decide, by decide⟩ rfl (by decide) k0 (by decide) rfl rfl (Nat.le_of_ble_eq_true rfl) (by decide) (dk kX8_customer 15 rfl) ?_
      refine g_if_eq C (tgt := 37) (dk kX8_customer 16 rfl) (by decide) (fun c11 => ?_) (fun c11 => ?_)
      · replace h := ite_t h c11
        refine g_aload_n C (i := 0) 0 rfl rfl (dk kX8_customer 19 rfl) ?_
        refine g_iload_n C (i := 1) 1 rfl rfl (dk kX8_customer 20 rfl) ?_
        refine g_iload_n C (i := 2) 2 rfl rfl (dk kX8_customer 21 rfl) ?_
        obtain ⟨x13, eq12, h⟩ := bd_inv h
        refine g_callV C E.2 (rest := []) 2 (ct_X8_customerOf k0 eq12) wd_5_128 mm_X8_customerOf ⟨rfl, by decide, by decide, by decide⟩ rfl (by decide) k0 (by decide) rfl rfl (Nat.le_of_ble_eq_true rfl) (by decide) (dk kX8_customer 22 rfl) ?_
        obtain ⟨h8, h9⟩ := Prod.mk.inj (Option.some.inj h)
        subst h8
        subst h9
        exact g_iret C E rfl rfl (Nat.le_refl 0) (Nat.le_refl 0) (dk kX8_customer 23 rfl)
      · replace h := ite_f h c11
        refine g_iconst C (v := 0) (by decide) (dk kX8_customer 17 rfl) ?_
        refine g_goto C (tgt := 43) (dk kX8_customer 18 rfl) (by decide) ?_
        obtain ⟨h8, h9⟩ := Prod.mk.inj (Option.some.inj h)
        subst h8
        subst h9
        exact g_iret C E rfl rfl (Nat.le_refl 0) (Nat.le_refl 0) (dk kX8_customer 23 rfl)
    clear h
    refine g_if_eq C (tgt := 26) (dk kX8_customer 11 rfl) (by decide) (fun c14 => ?_) (fun c14 => ?_)
    · refine g_iconst C (v := 2) (by decide) (dk kX8_customer 14 rfl) ?_
      exact g_nmi (by rw [ex6, if_pos c14]) kj7
    · refine g_iconst C (v := 0) (by decide) (dk kX8_customer 12 rfl) ?_
      refine g_goto C (tgt := 27) (dk kX8_customer 13 rfl) (by decide) ?_
      exact g_nmi (by rw [ex6, if_neg c14]) kj7
  · replace h := ite_t h c3
    refine g_iconst C (v := 1) (by decide) (dk kX8_customer 5 rfl) ?_
    refine g_goto C (tgt := 27) (dk kX8_customer 6 rfl) (by decide) ?_
    obtain ⟨q15, eq15, h⟩ := bd_inv h
    obtain ⟨x17, ex17, h⟩ := lt_inv h
    obtain ⟨μ16, eμ16, h⟩ := lt_inv h
    rw [show q15 = (x17, μ16) from by rw [ex17, eμ16]] at eq15
    refine g_callV C E.2 (rest := []) 1 (ct_X8_throwsAt k0 eq15) wd_5_48 mm_X8_throwsAt ⟨rfl, by decide, by decide, by decide⟩ rfl (by decide) k0 (by decide) rfl rfl (Nat.le_of_ble_eq_true rfl) (by decide) (dk kX8_customer 15 rfl) ?_
    refine g_if_eq C (tgt := 37) (dk kX8_customer 16 rfl) (by decide) (fun c18 => ?_) (fun c18 => ?_)
    · replace h := ite_t h c18
      refine g_aload_n C (i := 0) 0 rfl rfl (dk kX8_customer 19 rfl) ?_
      refine g_iload_n C (i := 1) 1 rfl rfl (dk kX8_customer 20 rfl) ?_
      refine g_iload_n C (i := 2) 2 rfl rfl (dk kX8_customer 21 rfl) ?_
      obtain ⟨x20, eq19, h⟩ := bd_inv h
      refine g_callV C E.2 (rest := []) 2 (ct_X8_customerOf k0 eq19) wd_5_128 mm_X8_customerOf ⟨rfl, by decide, by decide, by decide⟩ rfl (by decide) k0 (by decide) rfl rfl (Nat.le_of_ble_eq_true rfl) (by decide) (dk kX8_customer 22 rfl) ?_
      obtain ⟨h8, h9⟩ := Prod.mk.inj (Option.some.inj h)
      subst h8
      subst h9
      exact g_iret C E rfl rfl (Nat.le_refl 0) (Nat.le_refl 0) (dk kX8_customer 23 rfl)
    · replace h := ite_f h c18
      refine g_iconst C (v := 0) (by decide) (dk kX8_customer 17 rfl) ?_
      refine g_goto C (tgt := 43) (dk kX8_customer 18 rfl) (by decide) ?_
      obtain ⟨h8, h9⟩ := Prod.mk.inj (Option.some.inj h)
      subst h8
      subst h9
      exact g_iret C E rfl rfl (Nat.le_refl 0) (Nat.le_refl 0) (dk kX8_customer 23 rfl)
theorem ct_X8_customer {l : Launch} {Z : ZZ} {μ : Mm} {a0 : Nat} {a1 : Int32} {a2 : Int32} {r : Int32} {μ' : Mm} (k0 : (zk Z a0).1 = 6) (h : f_X8_customer (zk Z) μ a0 a1 a2 = some (r, μ')) : CtM l Z false yX8_customer cX8_customer 3 (some .int) 2 0 0 [.ref (za Z a0), .int a1, .int a2] μ (some (.int r)) Z μ' := ct_of rfl rfl (Nat.le_of_ble_eq_true rfl) (fun X C E => t_X8_customer μ a0 a1 a2 r μ' k0 h C E)

def qX8_earned : List (Nat × Instr × Nat) := [(0, .iconst 0, 1), (1, .istore_n 1, 1), (2, .iconst 0, 1), (3, .istore_n 2, 1), (4, .iload_n 2, 1), (5, .aload_n 0, 1), (6, .getfield 7, 3), (9, .bipush 9, 2), (11, .iaload, 1), (12, .if_icmp .ge 25, 3), (15, .iload_n 1, 1), (16, .aload_n 0, 1), (17, .iload_n 2, 1), (18, .iconst 2, 1), (19, .invokevirtual 79, 3), (22, .aload_n 0, 1), (23, .iload_n 2, 1), (24, .iconst 3, 1), (25, .invokevirtual 79, 3), (28, .isub, 1), (29, .iadd, 1), (30, .istore_n 1, 1), (31, .iinc 2 1, 3), (34, .goto (-30), 3), (37, .iload_n 1, 1), (38, .ireturn, 1)]
theorem kX8_earned : ∀ q ∈ qX8_earned, decode cX8_earned q.1 = .ok q.2 := by decide +kernel
def f_X8_earned_l4 (K : Nat → Nat × Nat) (μ : Mm) (v0 : Nat) : Nat → Int32 → Int32 → Option (Int32)
  | 0, _, _ => none
  | n + 1, v1, v2 => bd (rf K μ v0 0 8) fun b1 => gd (inb 9 (K b1).2) <| if (μ.1 b1 (ix 9)) ≤ v2 then (some v1) else (bd (f_X8_customerOf K μ v0 v2 2) fun x5 => bd (f_X8_customerOf K μ v0 v2 3) fun x7 => lt1 (α := Int32) (v1 + (x5 - x7)) fun x8 => lt1 (α := Int32) (v2 + 1) fun x9 => f_X8_earned_l4 K μ v0 n x8 x9)
def f_X8_earned (K : Nat → Nat × Nat) (μ : Mm) (a0 : Nat) : Option (Int32) :=
  bd (f_X8_earned_l4 K μ a0 FU 0 0) fun q10 => lt1 q10 fun x11 => some x11
set_option maxRecDepth 100000 in
set_option maxHeartbeats 4000000 in
theorem gl_X8_earned_4 {l : Launch} {Z : ZZ} {X : XX} (v0 : Nat) (k0 : (zk Z v0).1 = 6) (μ : Mm) (C : Cx l Z false X cX8_earned RX8 3 (some .int)) (E : xR X = rmm 1 0 0) : ∀ (n : Nat) (v1 : Int32) (v2 : Int32) (y : Int32), f_X8_earned_l4 (zk Z) μ v0 n v1 v2 = some y → G Z X 3 0 0 37 [(1, .int y)] [] (μ) → G Z X 3 0 0 4 [(0, .ref (za Z v0)), (1, .int v1), (2, .int v2)] [] μ := by
  intro n
  induction n with
  | zero => intro v1 v2 y h he; unfold f_X8_earned_l4 at h; cases h
  | succ n ih =>
    intro v1 v2 y h he
    unfold f_X8_earned_l4 at h
    refine g_iload_n C (i := 2) 2 rfl rfl (dk kX8_earned 4 rfl) ?_
    refine g_aload_n C (i := 0) 0 rfl rfl (dk kX8_earned 5 rfl) ?_
    obtain ⟨b1, eb1, h⟩ := bd_inv h
    obtain ⟨rb1, kb1⟩ := rf_inv eb1
    refine gR_6_0 C k0 (C.w wd_5_3) rb1 (dk kX8_earned 6 rfl) ?_
    refine g_bipush C (v := 9) (by decide) (dk kX8_earned 7 rfl) ?_
    obtain ⟨c2, h⟩ := gd_inv h
    refine g_iald C kb1 c2 (dk kX8_earned 8 rfl) ?_
    refine g_icmp_ge C (tgt := 37) (dk kX8_earned 9 rfl) (by decide) (fun c3 => ?_) (fun c3 => ?_)
    · replace h := ite_t h c3
      cases h
      exact g_sub [1] rfl he
    · replace h := ite_f h c3
      refine g_iload_n C (i := 1) 1 rfl rfl (dk kX8_earned 10 rfl) ?_
      refine g_aload_n C (i := 0) 0 rfl rfl (dk kX8_earned 11 rfl) ?_
      refine g_iload_n C (i := 2) 2 rfl rfl (dk kX8_earned 12 rfl) ?_
      refine g_iconst C (v := 2) (by decide) (dk kX8_earned 13 rfl) ?_
      obtain ⟨x5, eq4, h⟩ := bd_inv h
      refine g_callV C E (rest := [.int v1]) 2 (ct_X8_customerOf k0 eq4) wd_5_128 mm_X8_customerOf ⟨rfl, by decide, by decide, by decide⟩ rfl (by decide) k0 (by decide) rfl rfl (Nat.le_of_ble_eq_true rfl) (by decide) (dk kX8_earned 14 rfl) ?_
      refine g_aload_n C (i := 0) 0 rfl rfl (dk kX8_earned 15 rfl) ?_
      refine g_iload_n C (i := 2) 2 rfl rfl (dk kX8_earned 16 rfl) ?_
      refine g_iconst C (v := 3) (by decide) (dk kX8_earned 17 rfl) ?_
      obtain ⟨x7, eq6, h⟩ := bd_inv h
      refine g_callV C E (rest := [.int x5, .int v1]) 2 (ct_X8_customerOf k0 eq6) wd_5_128 mm_X8_customerOf ⟨rfl, by decide, by decide, by decide⟩ rfl (by decide) k0 (by decide) rfl rfl (Nat.le_of_ble_eq_true rfl) (by decide) (dk kX8_earned 18 rfl) ?_
      refine g_isub C (dk kX8_earned 19 rfl) ?_
      refine g_iadd C (dk kX8_earned 20 rfl) ?_
      obtain ⟨x8, ex8, h⟩ := lt_inv h
      refine g_nmi ex8 ?_
      refine g_istore_n C (i := 1) (lv' := [(1, .int x8), (0, .ref (za Z v0)), (2, .int v2)]) (dk kX8_earned 21 rfl) rfl (by decide) rfl ?_
      obtain ⟨x9, ex9, h⟩ := lt_inv h
      refine g_iinc C (i := 2) (v := x9) (lv' := [(2, .int x9), (1, .int x8), (0, .ref (za Z v0))]) 2 (dk kX8_earned 22 rfl) rfl (by rw [ex9]; rfl) (by decide) rfl ?_
      refine g_goto C (tgt := 4) (dk kX8_earned 23 rfl) (by decide) ?_
      exact g_sub [2, 1, 0] rfl (ih x8 x9 y h he)
set_option maxRecDepth 100000 in
set_option maxHeartbeats 4000000 in
theorem t_X8_earned {l : Launch} {Z : ZZ} {X : XX} (μ : Mm) (a0 : Nat) (r : Int32) (k0 : (zk Z a0).1 = 6) (h : f_X8_earned (zk Z) μ a0 = some r) (C : Cx l Z false X cX8_earned RX8 3 (some .int)) (E : Ex Z X 1 0 0 (some (.int r)) Z μ) : G Z X 3 0 0 0 [(0, .ref (za Z a0))] [] μ := by
  unfold f_X8_earned at h
  refine g_iconst C (v := 0) (by decide) (dk kX8_earned 0 rfl) ?_
  refine g_istore_n C (i := 1) (lv' := [(1, .int 0), (0, .ref (za Z a0))]) (dk kX8_earned 1 rfl) rfl (by decide) rfl ?_
  refine g_iconst C (v := 0) (by decide) (dk kX8_earned 2 rfl) ?_
  refine g_istore_n C (i := 2) (lv' := [(2, .int 0), (1, .int 0), (0, .ref (za Z a0))]) (dk kX8_earned 3 rfl) rfl (by decide) rfl ?_
  obtain ⟨q10, eq10, h⟩ := bd_inv h
  refine g_sub [2, 1, 0] (lv' := [(0, .ref (za Z a0)), (1, .int 0), (2, .int 0)]) rfl ?_
  refine gl_X8_earned_4 a0 k0 μ C E.2 FU 0 0 _ eq10 ?_
  obtain ⟨x11, ex11, h⟩ := lt_inv h
  rw [← ex11]
  refine g_iload_n C (i := 1) 0 rfl rfl (dk kX8_earned 24 rfl) ?_
  have h9 := Option.some.inj h
  subst h9
  exact g_iret C E rfl rfl (Nat.le_refl 0) (Nat.le_refl 0) (dk kX8_earned 25 rfl)
theorem ct_X8_earned {l : Launch} {Z : ZZ} {μ : Mm} {a0 : Nat} {r : Int32} (k0 : (zk Z a0).1 = 6) (h : f_X8_earned (zk Z) μ a0 = some r) : CtM l Z false yX8_earned cX8_earned 3 (some .int) 1 0 0 [.ref (za Z a0)] μ (some (.int r)) Z μ := ct_of rfl rfl (Nat.le_of_ble_eq_true rfl) (fun X C E => t_X8_earned μ a0 r k0 h C E)

def qX8_rented : List (Nat × Instr × Nat) := [(0, .iconst 0, 1), (1, .istore_n 1, 1), (2, .iconst 0, 1), (3, .istore_n 2, 1), (4, .iload_n 2, 1), (5, .aload_n 0, 1), (6, .getfield 7, 3), (9, .iconst 0, 1), (10, .iaload, 1), (11, .if_icmp .ge 26, 3), (14, .iload_n 1, 1), (15, .aload_n 0, 1), (16, .iload_n 2, 1), (17, .invokevirtual 82, 3), (20, .iconst (-1), 1), (21, .if_icmp .ne 7, 3), (24, .iconst 0, 1), (25, .goto 4, 3), (28, .iconst 1, 1), (29, .iadd, 1), (30, .istore_n 1, 1), (31, .iinc 2 1, 3), (34, .goto (-30), 3), (37, .iload_n 1, 1), (38, .ireturn, 1)]
theorem kX8_rented : ∀ q ∈ qX8_rented, decode cX8_rented q.1 = .ok q.2 := by decide +kernel
def f_X8_rented_l4 (K : Nat → Nat × Nat) (μ : Mm) (v0 : Nat) : Nat → Int32 → Int32 → Option (Int32)
  | 0, _, _ => none
  | n + 1, v1, v2 => bd (rf K μ v0 0 8) fun b1 => gd (inb 0 (K b1).2) <| if (μ.1 b1 (ix 0)) ≤ v2 then (some v1) else (bd (f_X8_renter K μ v0 v2) fun x5 => lt1 (α := Int32) (if x5 = (-1) then 0 else 1) fun x6 => lt1 (α := Int32) (v1 + x6) fun x8 => lt1 (α := Int32) (v2 + 1) fun x9 => f_X8_rented_l4 K μ v0 n x8 x9)
def f_X8_rented (K : Nat → Nat × Nat) (μ : Mm) (a0 : Nat) : Option (Int32) :=
  bd (f_X8_rented_l4 K μ a0 FU 0 0) fun q11 => lt1 q11 fun x12 => some x12
set_option maxRecDepth 100000 in
set_option maxHeartbeats 4000000 in
theorem gl_X8_rented_4 {l : Launch} {Z : ZZ} {X : XX} (v0 : Nat) (k0 : (zk Z v0).1 = 6) (μ : Mm) (C : Cx l Z false X cX8_rented RX8 3 (some .int)) (E : xR X = rmm 2 0 0) : ∀ (n : Nat) (v1 : Int32) (v2 : Int32) (y : Int32), f_X8_rented_l4 (zk Z) μ v0 n v1 v2 = some y → G Z X 3 0 0 37 [(1, .int y)] [] (μ) → G Z X 3 0 0 4 [(0, .ref (za Z v0)), (1, .int v1), (2, .int v2)] [] μ := by
  intro n
  induction n with
  | zero => intro v1 v2 y h he; unfold f_X8_rented_l4 at h; cases h
  | succ n ih =>
    intro v1 v2 y h he
    unfold f_X8_rented_l4 at h
    refine g_iload_n C (i := 2) 2 rfl rfl (dk kX8_rented 4 rfl) ?_
    refine g_aload_n C (i := 0) 0 rfl rfl (dk kX8_rented 5 rfl) ?_
    obtain ⟨b1, eb1, h⟩ := bd_inv h
    obtain ⟨rb1, kb1⟩ := rf_inv eb1
    refine gR_6_0 C k0 (C.w wd_5_3) rb1 (dk kX8_rented 6 rfl) ?_
    refine g_iconst C (v := 0) (by decide) (dk kX8_rented 7 rfl) ?_
    obtain ⟨c2, h⟩ := gd_inv h
    refine g_iald C kb1 c2 (dk kX8_rented 8 rfl) ?_
    refine g_icmp_ge C (tgt := 37) (dk kX8_rented 9 rfl) (by decide) (fun c3 => ?_) (fun c3 => ?_)
    · replace h := ite_t h c3
      cases h
      exact g_sub [1] rfl he
    · replace h := ite_f h c3
      refine g_iload_n C (i := 1) 1 rfl rfl (dk kX8_rented 10 rfl) ?_
      refine g_aload_n C (i := 0) 0 rfl rfl (dk kX8_rented 11 rfl) ?_
      refine g_iload_n C (i := 2) 2 rfl rfl (dk kX8_rented 12 rfl) ?_
      obtain ⟨x5, eq4, h⟩ := bd_inv h
      refine g_callV C E (rest := [.int v1]) 1 (ct_X8_renter k0 eq4) wd_5_124 mm_X8_renter ⟨rfl, by decide, by decide, by decide⟩ rfl (by decide) k0 (by decide) rfl rfl (Nat.le_of_ble_eq_true rfl) (by decide) (dk kX8_rented 13 rfl) ?_
      refine g_iconst C (v := (-1)) (by decide) (dk kX8_rented 14 rfl) ?_
      obtain ⟨x6, ex6, h⟩ := lt_inv h
      have kj7 : G Z X 3 0 0 29 [(0, .ref (za Z v0)), (1, .int v1), (2, .int v2)] [.int x6, .int v1] μ := by
        refine g_iadd C (dk kX8_rented 19 rfl) ?_
        obtain ⟨x8, ex8, h⟩ := lt_inv h
        refine g_nmi ex8 ?_
        refine g_istore_n C (i := 1) (lv' := [(1, .int x8), (0, .ref (za Z v0)), (2, .int v2)]) (dk kX8_rented 20 rfl) rfl (by decide) rfl ?_
        obtain ⟨x9, ex9, h⟩ := lt_inv h
        refine g_iinc C (i := 2) (v := x9) (lv' := [(2, .int x9), (1, .int x8), (0, .ref (za Z v0))]) 2 (dk kX8_rented 21 rfl) rfl (by rw [ex9]; rfl) (by decide) rfl ?_
        refine g_goto C (tgt := 4) (dk kX8_rented 22 rfl) (by decide) ?_
        exact g_sub [2, 1, 0] rfl (ih x8 x9 y h he)
      clear h
      refine g_icmp_ne C (tgt := 28) (dk kX8_rented 15 rfl) (by decide) (fun c10 => ?_) (fun c10 => ?_)
      · refine g_iconst C (v := 1) (by decide) (dk kX8_rented 18 rfl) ?_
        exact g_nmi (by rw [ex6, if_neg c10]) kj7
      · refine g_iconst C (v := 0) (by decide) (dk kX8_rented 16 rfl) ?_
        refine g_goto C (tgt := 29) (dk kX8_rented 17 rfl) (by decide) ?_
        exact g_nmi (by rw [ex6, if_pos c10]) kj7
set_option maxRecDepth 100000 in
set_option maxHeartbeats 4000000 in
theorem t_X8_rented {l : Launch} {Z : ZZ} {X : XX} (μ : Mm) (a0 : Nat) (r : Int32) (k0 : (zk Z a0).1 = 6) (h : f_X8_rented (zk Z) μ a0 = some r) (C : Cx l Z false X cX8_rented RX8 3 (some .int)) (E : Ex Z X 2 0 0 (some (.int r)) Z μ) : G Z X 3 0 0 0 [(0, .ref (za Z a0))] [] μ := by
  unfold f_X8_rented at h
  refine g_iconst C (v := 0) (by decide) (dk kX8_rented 0 rfl) ?_
  refine g_istore_n C (i := 1) (lv' := [(1, .int 0), (0, .ref (za Z a0))]) (dk kX8_rented 1 rfl) rfl (by decide) rfl ?_
  refine g_iconst C (v := 0) (by decide) (dk kX8_rented 2 rfl) ?_
  refine g_istore_n C (i := 2) (lv' := [(2, .int 0), (1, .int 0), (0, .ref (za Z a0))]) (dk kX8_rented 3 rfl) rfl (by decide) rfl ?_
  obtain ⟨q11, eq11, h⟩ := bd_inv h
  refine g_sub [2, 1, 0] (lv' := [(0, .ref (za Z a0)), (1, .int 0), (2, .int 0)]) rfl ?_
  refine gl_X8_rented_4 a0 k0 μ C E.2 FU 0 0 _ eq11 ?_
  obtain ⟨x12, ex12, h⟩ := lt_inv h
  rw [← ex12]
  refine g_iload_n C (i := 1) 0 rfl rfl (dk kX8_rented 23 rfl) ?_
  have h9 := Option.some.inj h
  subst h9
  exact g_iret C E rfl rfl (Nat.le_refl 0) (Nat.le_refl 0) (dk kX8_rented 24 rfl)
theorem ct_X8_rented {l : Launch} {Z : ZZ} {μ : Mm} {a0 : Nat} {r : Int32} (k0 : (zk Z a0).1 = 6) (h : f_X8_rented (zk Z) μ a0 = some r) : CtM l Z false yX8_rented cX8_rented 3 (some .int) 2 0 0 [.ref (za Z a0)] μ (some (.int r)) Z μ := ct_of rfl rfl (Nat.le_of_ble_eq_true rfl) (fun X C E => t_X8_rented μ a0 r k0 h C E)

def qX8_wholeOf : List (Nat × Instr × Nat) := [(0, .iload_n 1, 1), (1, .tableswitch 89 10 17 #[47, 53, 53, 53, 66, 71, 76, 84], 47), (48, .aload_n 0, 1), (49, .iconst 1, 1), (50, .invokevirtual 51, 3), (53, .ireturn, 1), (54, .aload_n 0, 1), (55, .getfield 7, 3), (58, .bipush 10, 2), (60, .iload_n 1, 1), (61, .iadd, 1), (62, .bipush 11, 2), (64, .isub, 1), (65, .iaload, 1), (66, .ireturn, 1), (67, .aload_n 0, 1), (68, .invokevirtual 143, 3), (71, .ireturn, 1), (72, .aload_n 0, 1), (73, .invokevirtual 91, 3), (76, .ireturn, 1), (77, .aload_n 0, 1), (78, .getfield 7, 3), (81, .bipush 13, 2), (83, .iaload, 1), (84, .ireturn, 1), (85, .aload_n 0, 1), (86, .getfield 146, 3), (89, .ireturn, 1), (90, .aload_n 0, 1), (91, .getfield 7, 3), (94, .iload_n 1, 1), (95, .iaload, 1), (96, .ireturn, 1)]
theorem kX8_wholeOf : ∀ q ∈ qX8_wholeOf, decode cX8_wholeOf q.1 = .ok q.2 := by decide +kernel
def f_X8_wholeOf (K : Nat → Nat × Nat) (μ : Mm) (a0 : Nat) (a1 : Int32) : Option (Int32) :=
  if a1 = 10 then (bd (f_X8_sumOf K μ a0 1) fun x3 => some x3) else (if a1 = 11 then (bd (rf K μ a0 0 8) fun b5 => gd (inb ((10 + a1) - 11) (K b5).2) <| some (μ.1 b5 (ix ((10 + a1) - 11)))) else (if a1 = 12 then (bd (rf K μ a0 0 8) fun b8 => gd (inb ((10 + a1) - 11) (K b8).2) <| some (μ.1 b8 (ix ((10 + a1) - 11)))) else (if a1 = 13 then (bd (rf K μ a0 0 8) fun b11 => gd (inb ((10 + a1) - 11) (K b11).2) <| some (μ.1 b11 (ix ((10 + a1) - 11)))) else (if a1 = 14 then (bd (f_X8_earned K μ a0) fun x15 => some x15) else (if a1 = 15 then (bd (f_X8_rented K μ a0) fun x18 => some x18) else (if a1 = 16 then (bd (rf K μ a0 0 8) fun b20 => gd (inb 13 (K b20).2) <| some (μ.1 b20 (ix 13))) else (if a1 = 17 then (some (μ.1 a0 6)) else (bd (rf K μ a0 0 8) fun b23 => gd (inb a1 (K b23).2) <| some (μ.1 b23 (ix a1))))))))))
set_option maxRecDepth 100000 in
set_option maxHeartbeats 4000000 in
theorem t_X8_wholeOf {l : Launch} {Z : ZZ} {X : XX} (μ : Mm) (a0 : Nat) (a1 : Int32) (r : Int32) (k0 : (zk Z a0).1 = 6) (h : f_X8_wholeOf (zk Z) μ a0 a1 = some r) (C : Cx l Z false X cX8_wholeOf RX8 2 (some .int)) (E : Ex Z X 3 0 0 (some (.int r)) Z μ) : G Z X 2 0 0 0 [(0, .ref (za Z a0)), (1, .int a1)] [] μ := by
  unfold f_X8_wholeOf at h
  refine g_iload_n C (i := 1) 1 rfl rfl (dk kX8_wholeOf 0 rfl) ?_
  by_cases c1 : a1 = 10
  · replace h := ite_t h c1
    refine g_tin C (tgt := 48) (dk kX8_wholeOf 1 rfl) (by rw [c1]; decide) (by rw [c1]; decide) (by rw [c1]; rfl) (by decide) ?_
    refine g_aload_n C (i := 0) 0 rfl rfl (dk kX8_wholeOf 2 rfl) ?_
    refine g_iconst C (v := 1) (by decide) (dk kX8_wholeOf 3 rfl) ?_
    obtain ⟨x3, eq2, h⟩ := bd_inv h
    refine g_callV C E.2 (rest := []) 1 (ct_X8_sumOf k0 eq2) wd_5_56 mm_X8_sumOf ⟨rfl, by decide, by decide, by decide⟩ rfl (by decide) k0 (by decide) rfl rfl (Nat.le_of_ble_eq_true rfl) (by decide) (dk kX8_wholeOf 4 rfl) ?_
    have h9 := Option.some.inj h
    subst h9
    exact g_iret C E rfl rfl (Nat.le_refl 0) (Nat.le_refl 0) (dk kX8_wholeOf 5 rfl)
  · replace h := ite_f h c1
    by_cases c4 : a1 = 11
    · replace h := ite_t h c4
      refine g_tin C (tgt := 54) (dk kX8_wholeOf 1 rfl) (by rw [c4]; decide) (by rw [c4]; decide) (by rw [c4]; rfl) (by decide) ?_
      refine g_aload_n C (i := 0) 0 rfl rfl (dk kX8_wholeOf 6 rfl) ?_
      obtain ⟨b5, eb5, h⟩ := bd_inv h
      obtain ⟨rb5, kb5⟩ := rf_inv eb5
      refine gR_6_0 C k0 (C.w wd_5_3) rb5 (dk kX8_wholeOf 7 rfl) ?_
      refine g_bipush C (v := 10) (by decide) (dk kX8_wholeOf 8 rfl) ?_
      refine g_iload_n C (i := 1) 1 rfl rfl (dk kX8_wholeOf 9 rfl) ?_
      refine g_iadd C (dk kX8_wholeOf 10 rfl) ?_
      refine g_bipush C (v := 11) (by decide) (dk kX8_wholeOf 11 rfl) ?_
      refine g_isub C (dk kX8_wholeOf 12 rfl) ?_
      obtain ⟨c6, h⟩ := gd_inv h
      refine g_iald C kb5 c6 (dk kX8_wholeOf 13 rfl) ?_
      have h9 := Option.some.inj h
      subst h9
      exact g_iret C E rfl rfl (Nat.le_refl 0) (Nat.le_refl 0) (dk kX8_wholeOf 14 rfl)
    · replace h := ite_f h c4
      by_cases c7 : a1 = 12
      · replace h := ite_t h c7
        refine g_tin C (tgt := 54) (dk kX8_wholeOf 1 rfl) (by rw [c7]; decide) (by rw [c7]; decide) (by rw [c7]; rfl) (by decide) ?_
        refine g_aload_n C (i := 0) 0 rfl rfl (dk kX8_wholeOf 6 rfl) ?_
        obtain ⟨b8, eb8, h⟩ := bd_inv h
        obtain ⟨rb8, kb8⟩ := rf_inv eb8
        refine gR_6_0 C k0 (C.w wd_5_3) rb8 (dk kX8_wholeOf 7 rfl) ?_
        refine g_bipush C (v := 10) (by decide) (dk kX8_wholeOf 8 rfl) ?_
        refine g_iload_n C (i := 1) 1 rfl rfl (dk kX8_wholeOf 9 rfl) ?_
        refine g_iadd C (dk kX8_wholeOf 10 rfl) ?_
        refine g_bipush C (v := 11) (by decide) (dk kX8_wholeOf 11 rfl) ?_
        refine g_isub C (dk kX8_wholeOf 12 rfl) ?_
        obtain ⟨c9, h⟩ := gd_inv h
        refine g_iald C kb8 c9 (dk kX8_wholeOf 13 rfl) ?_
        have h9 := Option.some.inj h
        subst h9
        exact g_iret C E rfl rfl (Nat.le_refl 0) (Nat.le_refl 0) (dk kX8_wholeOf 14 rfl)
      · replace h := ite_f h c7
        by_cases c10 : a1 = 13
        · replace h := ite_t h c10
          refine g_tin C (tgt := 54) (dk kX8_wholeOf 1 rfl) (by rw [c10]; decide) (by rw [c10]; decide) (by rw [c10]; rfl) (by decide) ?_
          refine g_aload_n C (i := 0) 0 rfl rfl (dk kX8_wholeOf 6 rfl) ?_
          obtain ⟨b11, eb11, h⟩ := bd_inv h
          obtain ⟨rb11, kb11⟩ := rf_inv eb11
          refine gR_6_0 C k0 (C.w wd_5_3) rb11 (dk kX8_wholeOf 7 rfl) ?_
          refine g_bipush C (v := 10) (by decide) (dk kX8_wholeOf 8 rfl) ?_
          refine g_iload_n C (i := 1) 1 rfl rfl (dk kX8_wholeOf 9 rfl) ?_
          refine g_iadd C (dk kX8_wholeOf 10 rfl) ?_
          refine g_bipush C (v := 11) (by decide) (dk kX8_wholeOf 11 rfl) ?_
          refine g_isub C (dk kX8_wholeOf 12 rfl) ?_
          obtain ⟨c12, h⟩ := gd_inv h
          refine g_iald C kb11 c12 (dk kX8_wholeOf 13 rfl) ?_
          have h9 := Option.some.inj h
          subst h9
          exact g_iret C E rfl rfl (Nat.le_refl 0) (Nat.le_refl 0) (dk kX8_wholeOf 14 rfl)
        · replace h := ite_f h c10
          by_cases c13 : a1 = 14
          · replace h := ite_t h c13
            refine g_tin C (tgt := 67) (dk kX8_wholeOf 1 rfl) (by rw [c13]; decide) (by rw [c13]; decide) (by rw [c13]; rfl) (by decide) ?_
            refine g_aload_n C (i := 0) 0 rfl rfl (dk kX8_wholeOf 15 rfl) ?_
            obtain ⟨x15, eq14, h⟩ := bd_inv h
            refine g_callV C E.2 (rest := []) 0 (ct_X8_earned k0 eq14) wd_5_229 mm_X8_earned ⟨rfl, by decide, by decide, by decide⟩ rfl (by decide) k0 (by decide) rfl rfl (Nat.le_of_ble_eq_true rfl) (by decide) (dk kX8_wholeOf 16 rfl) ?_
            have h9 := Option.some.inj h
            subst h9
            exact g_iret C E rfl rfl (Nat.le_refl 0) (Nat.le_refl 0) (dk kX8_wholeOf 17 rfl)
          · replace h := ite_f h c13
            by_cases c16 : a1 = 15
            · replace h := ite_t h c16
              refine g_tin C (tgt := 72) (dk kX8_wholeOf 1 rfl) (by rw [c16]; decide) (by rw [c16]; decide) (by rw [c16]; rfl) (by decide) ?_
              refine g_aload_n C (i := 0) 0 rfl rfl (dk kX8_wholeOf 18 rfl) ?_
              obtain ⟨x18, eq17, h⟩ := bd_inv h
              refine g_callV C E.2 (rest := []) 0 (ct_X8_rented k0 eq17) wd_5_132 mm_X8_rented ⟨rfl, by decide, by decide, by decide⟩ rfl (by decide) k0 (by decide) rfl rfl (Nat.le_of_ble_eq_true rfl) (by decide) (dk kX8_wholeOf 19 rfl) ?_
              have h9 := Option.some.inj h
              subst h9
              exact g_iret C E rfl rfl (Nat.le_refl 0) (Nat.le_refl 0) (dk kX8_wholeOf 20 rfl)
            · replace h := ite_f h c16
              by_cases c19 : a1 = 16
              · replace h := ite_t h c19
                refine g_tin C (tgt := 77) (dk kX8_wholeOf 1 rfl) (by rw [c19]; decide) (by rw [c19]; decide) (by rw [c19]; rfl) (by decide) ?_
                refine g_aload_n C (i := 0) 0 rfl rfl (dk kX8_wholeOf 21 rfl) ?_
                obtain ⟨b20, eb20, h⟩ := bd_inv h
                obtain ⟨rb20, kb20⟩ := rf_inv eb20
                refine gR_6_0 C k0 (C.w wd_5_3) rb20 (dk kX8_wholeOf 22 rfl) ?_
                refine g_bipush C (v := 13) (by decide) (dk kX8_wholeOf 23 rfl) ?_
                obtain ⟨c21, h⟩ := gd_inv h
                refine g_iald C kb20 c21 (dk kX8_wholeOf 24 rfl) ?_
                have h9 := Option.some.inj h
                subst h9
                exact g_iret C E rfl rfl (Nat.le_refl 0) (Nat.le_refl 0) (dk kX8_wholeOf 25 rfl)
              · replace h := ite_f h c19
                by_cases c22 : a1 = 17
                · replace h := ite_t h c22
                  refine g_tin C (tgt := 85) (dk kX8_wholeOf 1 rfl) (by rw [c22]; decide) (by rw [c22]; decide) (by rw [c22]; rfl) (by decide) ?_
                  refine g_aload_n C (i := 0) 0 rfl rfl (dk kX8_wholeOf 26 rfl) ?_
                  refine gI_6_6 C k0 (C.w wd_5_9) (dk kX8_wholeOf 27 rfl) ?_
                  have h9 := Option.some.inj h
                  subst h9
                  exact g_iret C E rfl rfl (Nat.le_refl 0) (Nat.le_refl 0) (dk kX8_wholeOf 28 rfl)
                · replace h := ite_f h c22
                  refine g_tout C (tgt := 90) (dk kX8_wholeOf 1 rfl) (by have q0 := lv_neT c1 (a := 10) (by decide); have q1 := lv_neT c4 (a := 11) (by decide); have q2 := lv_neT c7 (a := 12) (by decide); have q3 := lv_neT c10 (a := 13) (by decide); have q4 := lv_neT c13 (a := 14) (by decide); have q5 := lv_neT c16 (a := 15) (by decide); have q6 := lv_neT c19 (a := 16) (by decide); have q7 := lv_neT c22 (a := 17) (by decide); omega) (by decide) ?_
                  refine g_aload_n C (i := 0) 0 rfl rfl (dk kX8_wholeOf 29 rfl) ?_
                  obtain ⟨b23, eb23, h⟩ := bd_inv h
                  obtain ⟨rb23, kb23⟩ := rf_inv eb23
                  refine gR_6_0 C k0 (C.w wd_5_3) rb23 (dk kX8_wholeOf 30 rfl) ?_
                  refine g_iload_n C (i := 1) 1 rfl rfl (dk kX8_wholeOf 31 rfl) ?_
                  obtain ⟨c24, h⟩ := gd_inv h
                  refine g_iald C kb23 c24 (dk kX8_wholeOf 32 rfl) ?_
                  have h9 := Option.some.inj h
                  subst h9
                  exact g_iret C E rfl rfl (Nat.le_refl 0) (Nat.le_refl 0) (dk kX8_wholeOf 33 rfl)
theorem ct_X8_wholeOf {l : Launch} {Z : ZZ} {μ : Mm} {a0 : Nat} {a1 : Int32} {r : Int32} (k0 : (zk Z a0).1 = 6) (h : f_X8_wholeOf (zk Z) μ a0 a1 = some r) : CtM l Z false yX8_wholeOf cX8_wholeOf 2 (some .int) 3 0 0 [.ref (za Z a0), .int a1] μ (some (.int r)) Z μ := ct_of rfl rfl (Nat.le_of_ble_eq_true rfl) (fun X C E => t_X8_wholeOf μ a0 a1 r k0 h C E)

def qX8_valueOf : List (Nat × Instr × Nat) := [(0, .iload_n 2, 1), (1, .iconst 2, 1), (2, .if_icmp .ge 15, 3), (5, .aload_n 0, 1), (6, .getfield 7, 3), (9, .iload_n 1, 1), (10, .iload_n 2, 1), (11, .invokestatic 40, 3), (14, .goto 41, 3), (17, .iload_n 2, 1), (18, .iconst 2, 1), (19, .if_icmp .ne 11, 3), (22, .aload_n 0, 1), (23, .iload_n 1, 1), (24, .invokevirtual 82, 3), (27, .goto 28, 3), (30, .iload_n 2, 1), (31, .iconst 3, 1), (32, .if_icmp .ne 15, 3), (35, .aload_n 0, 1), (36, .getfield 7, 3), (39, .iload_n 1, 1), (40, .iconst 2, 1), (41, .invokestatic 40, 3), (44, .goto 11, 3), (47, .aload_n 0, 1), (48, .getfield 7, 3), (51, .iload_n 1, 1), (52, .invokestatic 101, 3), (55, .ireturn, 1)]
theorem kX8_valueOf : ∀ q ∈ qX8_valueOf, decode cX8_valueOf q.1 = .ok q.2 := by decide +kernel
def f_X8_valueOf (K : Nat → Nat × Nat) (μ : Mm) (a0 : Nat) (a1 : Int32) (a2 : Int32) : Option (Int32) :=
  if 2 ≤ a2 then (if a2 = 2 then (bd (f_X8_renter K μ a0 a1) fun x11 => some x11) else (if a2 = 3 then (bd (rf K μ a0 0 8) fun b7 => bd (f_X8_dotOf K μ b7 a1 2) fun x9 => some x9) else (bd (rf K μ a0 0 8) fun b4 => bd (f_X8_fade K μ b4 a1) fun x6 => some x6))) else (bd (rf K μ a0 0 8) fun b12 => bd (f_X8_dotOf K μ b12 a1 a2) fun x14 => some x14)
set_option maxRecDepth 100000 in
set_option maxHeartbeats 4000000 in
theorem t_X8_valueOf {l : Launch} {Z : ZZ} {X : XX} (μ : Mm) (a0 : Nat) (a1 : Int32) (a2 : Int32) (r : Int32) (k0 : (zk Z a0).1 = 6) (h : f_X8_valueOf (zk Z) μ a0 a1 a2 = some r) (C : Cx l Z false X cX8_valueOf RX8 3 (some .int)) (E : Ex Z X 2 0 0 (some (.int r)) Z μ) : G Z X 3 0 0 0 [(0, .ref (za Z a0)), (1, .int a1), (2, .int a2)] [] μ := by
  unfold f_X8_valueOf at h
  refine g_iload_n C (i := 2) 2 rfl rfl (dk kX8_valueOf 0 rfl) ?_
  refine g_iconst C (v := 2) (by decide) (dk kX8_valueOf 1 rfl) ?_
  refine g_icmp_ge C (tgt := 17) (dk kX8_valueOf 2 rfl) (by decide) (fun c1 => ?_) (fun c1 => ?_)
  · replace h := ite_t h c1
    refine g_iload_n C (i := 2) 2 rfl rfl (dk kX8_valueOf 9 rfl) ?_
    refine g_iconst C (v := 2) (by decide) (dk kX8_valueOf 10 rfl) ?_
    refine g_icmp_ne C (tgt := 30) (dk kX8_valueOf 11 rfl) (by decide) (fun c2 => ?_) (fun c2 => ?_)
    · replace h := ite_f h c2
      refine g_iload_n C (i := 2) 2 rfl rfl (dk kX8_valueOf 16 rfl) ?_
      refine g_iconst C (v := 3) (by decide) (dk kX8_valueOf 17 rfl) ?_
      refine g_icmp_ne C (tgt := 47) (dk kX8_valueOf 18 rfl) (by decide) (fun c3 => ?_) (fun c3 => ?_)
      · replace h := ite_f h c3
        refine g_aload_n C (i := 0) 0 rfl rfl (dk kX8_valueOf 25 rfl) ?_
        obtain ⟨b4, eb4, h⟩ := bd_inv h
        obtain ⟨rb4, kb4⟩ := rf_inv eb4
        refine gR_6_0 C k0 (C.w wd_5_3) rb4 (dk kX8_valueOf 26 rfl) ?_
        refine g_iload_n C (i := 1) 1 rfl rfl (dk kX8_valueOf 27 rfl) ?_
        obtain ⟨x6, eq5, h⟩ := bd_inv h
        refine g_callS C E.2 (rest := []) 2 (ct_X8_fade kb4 eq5) wd_5_171 mm_X8_fade ⟨by decide, by decide, by decide⟩ rfl (by decide) rfl (Nat.le_of_ble_eq_true rfl) (by decide) (dk kX8_valueOf 28 rfl) ?_
        have h9 := Option.some.inj h
        subst h9
        exact g_iret C E rfl rfl (Nat.le_refl 0) (Nat.le_refl 0) (dk kX8_valueOf 29 rfl)
      · replace h := ite_t h c3
        refine g_aload_n C (i := 0) 0 rfl rfl (dk kX8_valueOf 19 rfl) ?_
        obtain ⟨b7, eb7, h⟩ := bd_inv h
        obtain ⟨rb7, kb7⟩ := rf_inv eb7
        refine gR_6_0 C k0 (C.w wd_5_3) rb7 (dk kX8_valueOf 20 rfl) ?_
        refine g_iload_n C (i := 1) 1 rfl rfl (dk kX8_valueOf 21 rfl) ?_
        refine g_iconst C (v := 2) (by decide) (dk kX8_valueOf 22 rfl) ?_
        obtain ⟨x9, eq8, h⟩ := bd_inv h
        refine g_callS C E.2 (rest := []) 3 (ct_X8_dotOf kb7 eq8) wd_5_60 mm_X8_dotOf ⟨by decide, by decide, by decide⟩ rfl (by decide) rfl (Nat.le_of_ble_eq_true rfl) (by decide) (dk kX8_valueOf 23 rfl) ?_
        refine g_goto C (tgt := 55) (dk kX8_valueOf 24 rfl) (by decide) ?_
        have h9 := Option.some.inj h
        subst h9
        exact g_iret C E rfl rfl (Nat.le_refl 0) (Nat.le_refl 0) (dk kX8_valueOf 29 rfl)
    · replace h := ite_t h c2
      refine g_aload_n C (i := 0) 0 rfl rfl (dk kX8_valueOf 12 rfl) ?_
      refine g_iload_n C (i := 1) 1 rfl rfl (dk kX8_valueOf 13 rfl) ?_
      obtain ⟨x11, eq10, h⟩ := bd_inv h
      refine g_callV C E.2 (rest := []) 1 (ct_X8_renter k0 eq10) wd_5_124 mm_X8_renter ⟨rfl, by decide, by decide, by decide⟩ rfl (by decide) k0 (by decide) rfl rfl (Nat.le_of_ble_eq_true rfl) (by decide) (dk kX8_valueOf 14 rfl) ?_
      refine g_goto C (tgt := 55) (dk kX8_valueOf 15 rfl) (by decide) ?_
      have h9 := Option.some.inj h
      subst h9
      exact g_iret C E rfl rfl (Nat.le_refl 0) (Nat.le_refl 0) (dk kX8_valueOf 29 rfl)
  · replace h := ite_f h c1
    refine g_aload_n C (i := 0) 0 rfl rfl (dk kX8_valueOf 3 rfl) ?_
    obtain ⟨b12, eb12, h⟩ := bd_inv h
    obtain ⟨rb12, kb12⟩ := rf_inv eb12
    refine gR_6_0 C k0 (C.w wd_5_3) rb12 (dk kX8_valueOf 4 rfl) ?_
    refine g_iload_n C (i := 1) 1 rfl rfl (dk kX8_valueOf 5 rfl) ?_
    refine g_iload_n C (i := 2) 2 rfl rfl (dk kX8_valueOf 6 rfl) ?_
    obtain ⟨x14, eq13, h⟩ := bd_inv h
    refine g_callS C E.2 (rest := []) 3 (ct_X8_dotOf kb12 eq13) wd_5_60 mm_X8_dotOf ⟨by decide, by decide, by decide⟩ rfl (by decide) rfl (Nat.le_of_ble_eq_true rfl) (by decide) (dk kX8_valueOf 7 rfl) ?_
    refine g_goto C (tgt := 55) (dk kX8_valueOf 8 rfl) (by decide) ?_
    have h9 := Option.some.inj h
    subst h9
    exact g_iret C E rfl rfl (Nat.le_refl 0) (Nat.le_refl 0) (dk kX8_valueOf 29 rfl)
theorem ct_X8_valueOf {l : Launch} {Z : ZZ} {μ : Mm} {a0 : Nat} {a1 : Int32} {a2 : Int32} {r : Int32} (k0 : (zk Z a0).1 = 6) (h : f_X8_valueOf (zk Z) μ a0 a1 a2 = some r) : CtM l Z false yX8_valueOf cX8_valueOf 3 (some .int) 2 0 0 [.ref (za Z a0), .int a1, .int a2] μ (some (.int r)) Z μ := ct_of rfl rfl (Nat.le_of_ble_eq_true rfl) (fun X C E => t_X8_valueOf μ a0 a1 a2 r k0 h C E)

def qX8_empties : List (Nat × Instr × Nat) := [(0, .iconst 1, 1), (1, .aload_n 0, 1), (2, .iload_n 1, 1), (3, .iconst 0, 1), (4, .invokevirtual 68, 3), (7, .ishl, 1), (8, .iconst 1, 1), (9, .isub, 1), (10, .istore_n 2, 1), (11, .iconst 0, 1), (12, .istore_n 3, 1), (13, .iload_n 3, 1), (14, .bipush 6, 2), (16, .if_icmp .ge 22, 3), (19, .iload_n 2, 1), (20, .aload_n 0, 1), (21, .iload_n 1, 1), (22, .iconst 2, 1), (23, .iload_n 3, 1), (24, .iadd, 1), (25, .invokevirtual 68, 3), (28, .iconst (-1), 1), (29, .ixor, 1), (30, .iand, 1), (31, .istore_n 2, 1), (32, .iinc 3 1, 3), (35, .goto (-22), 3), (38, .iload_n 2, 1), (39, .ireturn, 1)]
theorem kX8_empties : ∀ q ∈ qX8_empties, decode cX8_empties q.1 = .ok q.2 := by decide +kernel
def f_X8_empties_l13 (K : Nat → Nat × Nat) (μ : Mm) (v0 : Nat) (v1 : Int32) : Nat → Int32 → Int32 → Option (Int32)
  | 0, _, _ => none
  | n + 1, v2, v3 => if 6 ≤ v3 then (some v2) else (bd (f_X8_labelOf K μ v0 v1 (2 + v3)) fun x6 => lt1 (α := Int32) (v2 &&& (x6 ^^^ (-1))) fun x7 => lt1 (α := Int32) (v3 + 1) fun x8 => f_X8_empties_l13 K μ v0 v1 n x7 x8)
def f_X8_empties (K : Nat → Nat × Nat) (μ : Mm) (a0 : Nat) (a1 : Int32) : Option (Int32) :=
  bd (f_X8_labelOf K μ a0 a1 0) fun x2 => lt1 (α := Int32) ((1 <<< (x2 &&& 31)) - 1) fun x3 => bd (f_X8_empties_l13 K μ a0 a1 FU x3 0) fun q9 => lt1 q9 fun x10 => some x10
set_option maxRecDepth 100000 in
set_option maxHeartbeats 4000000 in
theorem gl_X8_empties_13 {l : Launch} {Z : ZZ} {X : XX} (v0 : Nat) (v1 : Int32) (k0 : (zk Z v0).1 = 6) (μ : Mm) (C : Cx l Z false X cX8_empties RX8 4 (some .int)) (E : xR X = rmm 1 0 0) : ∀ (n : Nat) (v2 : Int32) (v3 : Int32) (y : Int32), f_X8_empties_l13 (zk Z) μ v0 v1 n v2 v3 = some y → G Z X 4 0 0 38 [(2, .int y)] [] (μ) → G Z X 4 0 0 13 [(0, .ref (za Z v0)), (1, .int v1), (2, .int v2), (3, .int v3)] [] μ := by
  intro n
  induction n with
  | zero => intro v2 v3 y h he; unfold f_X8_empties_l13 at h; cases h
  | succ n ih =>
    intro v2 v3 y h he
    unfold f_X8_empties_l13 at h
    refine g_iload_n C (i := 3) 3 rfl rfl (dk kX8_empties 11 rfl) ?_
    refine g_bipush C (v := 6) (by decide) (dk kX8_empties 12 rfl) ?_
    refine g_icmp_ge C (tgt := 38) (dk kX8_empties 13 rfl) (by decide) (fun c4 => ?_) (fun c4 => ?_)
    · replace h := ite_t h c4
      cases h
      exact g_sub [2] rfl he
    · replace h := ite_f h c4
      refine g_iload_n C (i := 2) 2 rfl rfl (dk kX8_empties 14 rfl) ?_
      refine g_aload_n C (i := 0) 0 rfl rfl (dk kX8_empties 15 rfl) ?_
      refine g_iload_n C (i := 1) 1 rfl rfl (dk kX8_empties 16 rfl) ?_
      refine g_iconst C (v := 2) (by decide) (dk kX8_empties 17 rfl) ?_
      refine g_iload_n C (i := 3) 3 rfl rfl (dk kX8_empties 18 rfl) ?_
      refine g_iadd C (dk kX8_empties 19 rfl) ?_
      obtain ⟨x6, eq5, h⟩ := bd_inv h
      refine g_callV C E (rest := [.int v2]) 2 (ct_X8_labelOf k0 eq5) wd_5_89 mm_X8_labelOf ⟨rfl, by decide, by decide, by decide⟩ rfl (by decide) k0 (by decide) rfl rfl (Nat.le_of_ble_eq_true rfl) (by decide) (dk kX8_empties 20 rfl) ?_
      refine g_iconst C (v := (-1)) (by decide) (dk kX8_empties 21 rfl) ?_
      refine g_ixor C (dk kX8_empties 22 rfl) ?_
      refine g_iand C (dk kX8_empties 23 rfl) ?_
      obtain ⟨x7, ex7, h⟩ := lt_inv h
      refine g_nmi ex7 ?_
      refine g_istore_n C (i := 2) (lv' := [(2, .int x7), (0, .ref (za Z v0)), (1, .int v1), (3, .int v3)]) (dk kX8_empties 24 rfl) rfl (by decide) rfl ?_
      obtain ⟨x8, ex8, h⟩ := lt_inv h
      refine g_iinc C (i := 3) (v := x8) (lv' := [(3, .int x8), (2, .int x7), (0, .ref (za Z v0)), (1, .int v1)]) 3 (dk kX8_empties 25 rfl) rfl (by rw [ex8]; rfl) (by decide) rfl ?_
      refine g_goto C (tgt := 13) (dk kX8_empties 26 rfl) (by decide) ?_
      exact g_sub [2, 3, 1, 0] rfl (ih x7 x8 y h he)
set_option maxRecDepth 100000 in
set_option maxHeartbeats 4000000 in
theorem t_X8_empties {l : Launch} {Z : ZZ} {X : XX} (μ : Mm) (a0 : Nat) (a1 : Int32) (r : Int32) (k0 : (zk Z a0).1 = 6) (h : f_X8_empties (zk Z) μ a0 a1 = some r) (C : Cx l Z false X cX8_empties RX8 4 (some .int)) (E : Ex Z X 1 0 0 (some (.int r)) Z μ) : G Z X 4 0 0 0 [(0, .ref (za Z a0)), (1, .int a1)] [] μ := by
  unfold f_X8_empties at h
  refine g_iconst C (v := 1) (by decide) (dk kX8_empties 0 rfl) ?_
  refine g_aload_n C (i := 0) 0 rfl rfl (dk kX8_empties 1 rfl) ?_
  refine g_iload_n C (i := 1) 1 rfl rfl (dk kX8_empties 2 rfl) ?_
  refine g_iconst C (v := 0) (by decide) (dk kX8_empties 3 rfl) ?_
  obtain ⟨x2, eq1, h⟩ := bd_inv h
  refine g_callV C E.2 (rest := [.int 1]) 2 (ct_X8_labelOf k0 eq1) wd_5_89 mm_X8_labelOf ⟨rfl, by decide, by decide, by decide⟩ rfl (by decide) k0 (by decide) rfl rfl (Nat.le_of_ble_eq_true rfl) (by decide) (dk kX8_empties 4 rfl) ?_
  refine g_ishl C (dk kX8_empties 5 rfl) ?_
  refine g_iconst C (v := 1) (by decide) (dk kX8_empties 6 rfl) ?_
  refine g_isub C (dk kX8_empties 7 rfl) ?_
  obtain ⟨x3, ex3, h⟩ := lt_inv h
  refine g_nmi ex3 ?_
  refine g_istore_n C (i := 2) (lv' := [(2, .int x3), (0, .ref (za Z a0)), (1, .int a1)]) (dk kX8_empties 8 rfl) rfl (by decide) rfl ?_
  refine g_iconst C (v := 0) (by decide) (dk kX8_empties 9 rfl) ?_
  refine g_istore_n C (i := 3) (lv' := [(3, .int 0), (2, .int x3), (0, .ref (za Z a0)), (1, .int a1)]) (dk kX8_empties 10 rfl) rfl (by decide) rfl ?_
  obtain ⟨q9, eq9, h⟩ := bd_inv h
  refine g_sub [2, 3, 1, 0] (lv' := [(0, .ref (za Z a0)), (1, .int a1), (2, .int x3), (3, .int 0)]) rfl ?_
  refine gl_X8_empties_13 a0 a1 k0 μ C E.2 FU x3 0 _ eq9 ?_
  obtain ⟨x10, ex10, h⟩ := lt_inv h
  rw [← ex10]
  refine g_iload_n C (i := 2) 0 rfl rfl (dk kX8_empties 27 rfl) ?_
  have h9 := Option.some.inj h
  subst h9
  exact g_iret C E rfl rfl (Nat.le_refl 0) (Nat.le_refl 0) (dk kX8_empties 28 rfl)
theorem ct_X8_empties {l : Launch} {Z : ZZ} {μ : Mm} {a0 : Nat} {a1 : Int32} {r : Int32} (k0 : (zk Z a0).1 = 6) (h : f_X8_empties (zk Z) μ a0 a1 = some r) : CtM l Z false yX8_empties cX8_empties 4 (some .int) 1 0 0 [.ref (za Z a0), .int a1] μ (some (.int r)) Z μ := ct_of rfl rfl (Nat.le_of_ble_eq_true rfl) (fun X C E => t_X8_empties μ a0 a1 r k0 h C E)

def qX8_ofLabel : List (Nat × Instr × Nat) := [(0, .iload_n 2, 1), (1, .iconst 2, 1), (2, .if_icmp .ge 12, 3), (5, .aload_n 0, 1), (6, .iload_n 1, 1), (7, .iload_n 2, 1), (8, .invokevirtual 68, 3), (11, .goto 40, 3), (14, .iload_n 2, 1), (15, .iconst 2, 1), (16, .if_icmp .ne 11, 3), (19, .aload_n 0, 1), (20, .iload_n 1, 1), (21, .invokevirtual 98, 3), (24, .goto 27, 3), (27, .iload_n 2, 1), (28, .iconst 5, 1), (29, .if_icmp .ne 11, 3), (32, .aload_n 0, 1), (33, .iload_n 1, 1), (34, .invokevirtual 137, 3), (37, .goto 14, 3), (40, .aload_n 0, 1), (41, .iload_n 1, 1), (42, .bipush 8, 2), (44, .iload_n 2, 1), (45, .iadd, 1), (46, .iconst 3, 1), (47, .isub, 1), (48, .invokevirtual 68, 3), (51, .ireturn, 1)]
theorem kX8_ofLabel : ∀ q ∈ qX8_ofLabel, decode cX8_ofLabel q.1 = .ok q.2 := by decide +kernel
def f_X8_ofLabel (K : Nat → Nat × Nat) (μ : Mm) (a0 : Nat) (a1 : Int32) (a2 : Int32) : Option (Int32) :=
  if 2 ≤ a2 then (if a2 = 2 then (bd (f_X8_blacks K μ a0 a1) fun x9 => some x9) else (if a2 = 5 then (bd (f_X8_empties K μ a0 a1) fun x7 => some x7) else (bd (f_X8_labelOf K μ a0 a1 ((8 + a2) - 3)) fun x5 => some x5))) else (bd (f_X8_labelOf K μ a0 a1 a2) fun x11 => some x11)
set_option maxRecDepth 100000 in
set_option maxHeartbeats 4000000 in
theorem t_X8_ofLabel {l : Launch} {Z : ZZ} {X : XX} (μ : Mm) (a0 : Nat) (a1 : Int32) (a2 : Int32) (r : Int32) (k0 : (zk Z a0).1 = 6) (h : f_X8_ofLabel (zk Z) μ a0 a1 a2 = some r) (C : Cx l Z false X cX8_ofLabel RX8 3 (some .int)) (E : Ex Z X 2 0 0 (some (.int r)) Z μ) : G Z X 3 0 0 0 [(0, .ref (za Z a0)), (1, .int a1), (2, .int a2)] [] μ := by
  unfold f_X8_ofLabel at h
  refine g_iload_n C (i := 2) 2 rfl rfl (dk kX8_ofLabel 0 rfl) ?_
  refine g_iconst C (v := 2) (by decide) (dk kX8_ofLabel 1 rfl) ?_
  refine g_icmp_ge C (tgt := 14) (dk kX8_ofLabel 2 rfl) (by decide) (fun c1 => ?_) (fun c1 => ?_)
  · replace h := ite_t h c1
    refine g_iload_n C (i := 2) 2 rfl rfl (dk kX8_ofLabel 8 rfl) ?_
    refine g_iconst C (v := 2) (by decide) (dk kX8_ofLabel 9 rfl) ?_
    refine g_icmp_ne C (tgt := 27) (dk kX8_ofLabel 10 rfl) (by decide) (fun c2 => ?_) (fun c2 => ?_)
    · replace h := ite_f h c2
      refine g_iload_n C (i := 2) 2 rfl rfl (dk kX8_ofLabel 15 rfl) ?_
      refine g_iconst C (v := 5) (by decide) (dk kX8_ofLabel 16 rfl) ?_
      refine g_icmp_ne C (tgt := 40) (dk kX8_ofLabel 17 rfl) (by decide) (fun c3 => ?_) (fun c3 => ?_)
      · replace h := ite_f h c3
        refine g_aload_n C (i := 0) 0 rfl rfl (dk kX8_ofLabel 22 rfl) ?_
        refine g_iload_n C (i := 1) 1 rfl rfl (dk kX8_ofLabel 23 rfl) ?_
        refine g_bipush C (v := 8) (by decide) (dk kX8_ofLabel 24 rfl) ?_
        refine g_iload_n C (i := 2) 2 rfl rfl (dk kX8_ofLabel 25 rfl) ?_
        refine g_iadd C (dk kX8_ofLabel 26 rfl) ?_
        refine g_iconst C (v := 3) (by decide) (dk kX8_ofLabel 27 rfl) ?_
        refine g_isub C (dk kX8_ofLabel 28 rfl) ?_
        obtain ⟨x5, eq4, h⟩ := bd_inv h
        refine g_callV C E.2 (rest := []) 2 (ct_X8_labelOf k0 eq4) wd_5_89 mm_X8_labelOf ⟨rfl, by decide, by decide, by decide⟩ rfl (by decide) k0 (by decide) rfl rfl (Nat.le_of_ble_eq_true rfl) (by decide) (dk kX8_ofLabel 29 rfl) ?_
        have h9 := Option.some.inj h
        subst h9
        exact g_iret C E rfl rfl (Nat.le_refl 0) (Nat.le_refl 0) (dk kX8_ofLabel 30 rfl)
      · replace h := ite_t h c3
        refine g_aload_n C (i := 0) 0 rfl rfl (dk kX8_ofLabel 18 rfl) ?_
        refine g_iload_n C (i := 1) 1 rfl rfl (dk kX8_ofLabel 19 rfl) ?_
        obtain ⟨x7, eq6, h⟩ := bd_inv h
        refine g_callV C E.2 (rest := []) 1 (ct_X8_empties k0 eq6) wd_5_209 mm_X8_empties ⟨rfl, by decide, by decide, by decide⟩ rfl (by decide) k0 (by decide) rfl rfl (Nat.le_of_ble_eq_true rfl) (by decide) (dk kX8_ofLabel 20 rfl) ?_
        refine g_goto C (tgt := 51) (dk kX8_ofLabel 21 rfl) (by decide) ?_
        have h9 := Option.some.inj h
        subst h9
        exact g_iret C E rfl rfl (Nat.le_refl 0) (Nat.le_refl 0) (dk kX8_ofLabel 30 rfl)
    · replace h := ite_t h c2
      refine g_aload_n C (i := 0) 0 rfl rfl (dk kX8_ofLabel 11 rfl) ?_
      refine g_iload_n C (i := 1) 1 rfl rfl (dk kX8_ofLabel 12 rfl) ?_
      obtain ⟨x9, eq8, h⟩ := bd_inv h
      refine g_callV C E.2 (rest := []) 1 (ct_X8_blacks k0 eq8) wd_5_152 mm_X8_blacks ⟨rfl, by decide, by decide, by decide⟩ rfl (by decide) k0 (by decide) rfl rfl (Nat.le_of_ble_eq_true rfl) (by decide) (dk kX8_ofLabel 13 rfl) ?_
      refine g_goto C (tgt := 51) (dk kX8_ofLabel 14 rfl) (by decide) ?_
      have h9 := Option.some.inj h
      subst h9
      exact g_iret C E rfl rfl (Nat.le_refl 0) (Nat.le_refl 0) (dk kX8_ofLabel 30 rfl)
  · replace h := ite_f h c1
    refine g_aload_n C (i := 0) 0 rfl rfl (dk kX8_ofLabel 3 rfl) ?_
    refine g_iload_n C (i := 1) 1 rfl rfl (dk kX8_ofLabel 4 rfl) ?_
    refine g_iload_n C (i := 2) 2 rfl rfl (dk kX8_ofLabel 5 rfl) ?_
    obtain ⟨x11, eq10, h⟩ := bd_inv h
    refine g_callV C E.2 (rest := []) 2 (ct_X8_labelOf k0 eq10) wd_5_89 mm_X8_labelOf ⟨rfl, by decide, by decide, by decide⟩ rfl (by decide) k0 (by decide) rfl rfl (Nat.le_of_ble_eq_true rfl) (by decide) (dk kX8_ofLabel 6 rfl) ?_
    refine g_goto C (tgt := 51) (dk kX8_ofLabel 7 rfl) (by decide) ?_
    have h9 := Option.some.inj h
    subst h9
    exact g_iret C E rfl rfl (Nat.le_refl 0) (Nat.le_refl 0) (dk kX8_ofLabel 30 rfl)
theorem ct_X8_ofLabel {l : Launch} {Z : ZZ} {μ : Mm} {a0 : Nat} {a1 : Int32} {a2 : Int32} {r : Int32} (k0 : (zk Z a0).1 = 6) (h : f_X8_ofLabel (zk Z) μ a0 a1 a2 = some r) : CtM l Z false yX8_ofLabel cX8_ofLabel 3 (some .int) 2 0 0 [.ref (za Z a0), .int a1, .int a2] μ (some (.int r)) Z μ := ct_of rfl rfl (Nat.le_of_ble_eq_true rfl) (fun X C E => t_X8_ofLabel μ a0 a1 a2 r k0 h C E)

def qX8_worn : List (Nat × Instr × Nat) := [(0, .iconst 0, 1), (1, .istore_n 1, 1), (2, .iconst 1, 1), (3, .istore_n 2, 1), (4, .iload_n 2, 1), (5, .aload_n 0, 1), (6, .getfield 7, 3), (9, .iconst 0, 1), (10, .iaload, 1), (11, .if_icmp .ge 36, 3), (14, .aload_n 0, 1), (15, .getfield 7, 3), (18, .iload_n 2, 1), (19, .iconst 1, 1), (20, .invokestatic 40, 3), (23, .aload_n 0, 1), (24, .getfield 7, 3), (27, .iload_n 1, 1), (28, .iconst 1, 1), (29, .invokestatic 40, 3), (32, .if_icmp .le 7, 3), (35, .iload_n 2, 1), (36, .goto 4, 3), (39, .iload_n 1, 1), (40, .istore_n 1, 1), (41, .iinc 2 1, 3), (44, .goto (-40), 3), (47, .iload_n 1, 1), (48, .ireturn, 1)]
theorem kX8_worn : ∀ q ∈ qX8_worn, decode cX8_worn q.1 = .ok q.2 := by decide +kernel
def f_X8_worn_l4 (K : Nat → Nat × Nat) (μ : Mm) (v0 : Nat) : Nat → Int32 → Int32 → Option (Int32)
  | 0, _, _ => none
  | n + 1, v1, v2 => bd (rf K μ v0 0 8) fun b1 => gd (inb 0 (K b1).2) <| if (μ.1 b1 (ix 0)) ≤ v2 then (some v1) else (bd (rf K μ v0 0 8) fun b4 => bd (f_X8_dotOf K μ b4 v2 1) fun x6 => bd (rf K μ v0 0 8) fun b7 => bd (f_X8_dotOf K μ b7 v1 1) fun x9 => lt1 (α := Int32) (if x6 ≤ x9 then v1 else v2) fun x10 => lt1 (α := Int32) (v2 + 1) fun x12 => f_X8_worn_l4 K μ v0 n x10 x12)
def f_X8_worn (K : Nat → Nat × Nat) (μ : Mm) (a0 : Nat) : Option (Int32) :=
  bd (f_X8_worn_l4 K μ a0 FU 0 1) fun q14 => lt1 q14 fun x15 => some x15
set_option maxRecDepth 100000 in
set_option maxHeartbeats 4000000 in
theorem gl_X8_worn_4 {l : Launch} {Z : ZZ} {X : XX} (v0 : Nat) (k0 : (zk Z v0).1 = 6) (μ : Mm) (C : Cx l Z false X cX8_worn RX8 3 (some .int)) (E : xR X = rmm 1 0 0) : ∀ (n : Nat) (v1 : Int32) (v2 : Int32) (y : Int32), f_X8_worn_l4 (zk Z) μ v0 n v1 v2 = some y → G Z X 3 0 0 47 [(1, .int y)] [] (μ) → G Z X 3 0 0 4 [(0, .ref (za Z v0)), (1, .int v1), (2, .int v2)] [] μ := by
  intro n
  induction n with
  | zero => intro v1 v2 y h he; unfold f_X8_worn_l4 at h; cases h
  | succ n ih =>
    intro v1 v2 y h he
    unfold f_X8_worn_l4 at h
    refine g_iload_n C (i := 2) 2 rfl rfl (dk kX8_worn 4 rfl) ?_
    refine g_aload_n C (i := 0) 0 rfl rfl (dk kX8_worn 5 rfl) ?_
    obtain ⟨b1, eb1, h⟩ := bd_inv h
    obtain ⟨rb1, kb1⟩ := rf_inv eb1
    refine gR_6_0 C k0 (C.w wd_5_3) rb1 (dk kX8_worn 6 rfl) ?_
    refine g_iconst C (v := 0) (by decide) (dk kX8_worn 7 rfl) ?_
    obtain ⟨c2, h⟩ := gd_inv h
    refine g_iald C kb1 c2 (dk kX8_worn 8 rfl) ?_
    refine g_icmp_ge C (tgt := 47) (dk kX8_worn 9 rfl) (by decide) (fun c3 => ?_) (fun c3 => ?_)
    · replace h := ite_t h c3
      cases h
      exact g_sub [1] rfl he
    · replace h := ite_f h c3
      refine g_aload_n C (i := 0) 0 rfl rfl (dk kX8_worn 10 rfl) ?_
      obtain ⟨b4, eb4, h⟩ := bd_inv h
      obtain ⟨rb4, kb4⟩ := rf_inv eb4
      refine gR_6_0 C k0 (C.w wd_5_3) rb4 (dk kX8_worn 11 rfl) ?_
      refine g_iload_n C (i := 2) 2 rfl rfl (dk kX8_worn 12 rfl) ?_
      refine g_iconst C (v := 1) (by decide) (dk kX8_worn 13 rfl) ?_
      obtain ⟨x6, eq5, h⟩ := bd_inv h
      refine g_callS C E (rest := []) 3 (ct_X8_dotOf kb4 eq5) wd_5_60 mm_X8_dotOf ⟨by decide, by decide, by decide⟩ rfl (by decide) rfl (Nat.le_of_ble_eq_true rfl) (by decide) (dk kX8_worn 14 rfl) ?_
      refine g_aload_n C (i := 0) 0 rfl rfl (dk kX8_worn 15 rfl) ?_
      obtain ⟨b7, eb7, h⟩ := bd_inv h
      obtain ⟨rb7, kb7⟩ := rf_inv eb7
      refine gR_6_0 C k0 (C.w wd_5_3) rb7 (dk kX8_worn 16 rfl) ?_
      refine g_iload_n C (i := 1) 1 rfl rfl (dk kX8_worn 17 rfl) ?_
      refine g_iconst C (v := 1) (by decide) (dk kX8_worn 18 rfl) ?_
      obtain ⟨x9, eq8, h⟩ := bd_inv h
      refine g_callS C E (rest := [.int x6]) 3 (ct_X8_dotOf kb7 eq8) wd_5_60 mm_X8_dotOf ⟨by decide, by decide, by decide⟩ rfl (by decide) rfl (Nat.le_of_ble_eq_true rfl) (by decide) (dk kX8_worn 19 rfl) ?_
      obtain ⟨x10, ex10, h⟩ := lt_inv h
      have kj11 : G Z X 3 0 0 40 [(0, .ref (za Z v0)), (1, .int v1), (2, .int v2)] [.int x10] μ := by
        refine g_istore_n C (i := 1) (lv' := [(1, .int x10), (0, .ref (za Z v0)), (2, .int v2)]) (dk kX8_worn 24 rfl) rfl (by decide) rfl ?_
        obtain ⟨x12, ex12, h⟩ := lt_inv h
        refine g_iinc C (i := 2) (v := x12) (lv' := [(2, .int x12), (1, .int x10), (0, .ref (za Z v0))]) 2 (dk kX8_worn 25 rfl) rfl (by rw [ex12]; rfl) (by decide) rfl ?_
        refine g_goto C (tgt := 4) (dk kX8_worn 26 rfl) (by decide) ?_
        exact g_sub [2, 1, 0] rfl (ih x10 x12 y h he)
      clear h
      refine g_icmp_le C (tgt := 39) (dk kX8_worn 20 rfl) (by decide) (fun c13 => ?_) (fun c13 => ?_)
      · refine g_iload_n C (i := 1) 1 rfl rfl (dk kX8_worn 23 rfl) ?_
        exact g_nmi (by rw [ex10, if_pos c13]) kj11
      · refine g_iload_n C (i := 2) 2 rfl rfl (dk kX8_worn 21 rfl) ?_
        refine g_goto C (tgt := 40) (dk kX8_worn 22 rfl) (by decide) ?_
        exact g_nmi (by rw [ex10, if_neg c13]) kj11
set_option maxRecDepth 100000 in
set_option maxHeartbeats 4000000 in
theorem t_X8_worn {l : Launch} {Z : ZZ} {X : XX} (μ : Mm) (a0 : Nat) (r : Int32) (k0 : (zk Z a0).1 = 6) (h : f_X8_worn (zk Z) μ a0 = some r) (C : Cx l Z false X cX8_worn RX8 3 (some .int)) (E : Ex Z X 1 0 0 (some (.int r)) Z μ) : G Z X 3 0 0 0 [(0, .ref (za Z a0))] [] μ := by
  unfold f_X8_worn at h
  refine g_iconst C (v := 0) (by decide) (dk kX8_worn 0 rfl) ?_
  refine g_istore_n C (i := 1) (lv' := [(1, .int 0), (0, .ref (za Z a0))]) (dk kX8_worn 1 rfl) rfl (by decide) rfl ?_
  refine g_iconst C (v := 1) (by decide) (dk kX8_worn 2 rfl) ?_
  refine g_istore_n C (i := 2) (lv' := [(2, .int 1), (1, .int 0), (0, .ref (za Z a0))]) (dk kX8_worn 3 rfl) rfl (by decide) rfl ?_
  obtain ⟨q14, eq14, h⟩ := bd_inv h
  refine g_sub [2, 1, 0] (lv' := [(0, .ref (za Z a0)), (1, .int 0), (2, .int 1)]) rfl ?_
  refine gl_X8_worn_4 a0 k0 μ C E.2 FU 0 1 _ eq14 ?_
  obtain ⟨x15, ex15, h⟩ := lt_inv h
  rw [← ex15]
  refine g_iload_n C (i := 1) 0 rfl rfl (dk kX8_worn 27 rfl) ?_
  have h9 := Option.some.inj h
  subst h9
  exact g_iret C E rfl rfl (Nat.le_refl 0) (Nat.le_refl 0) (dk kX8_worn 28 rfl)
theorem ct_X8_worn {l : Launch} {Z : ZZ} {μ : Mm} {a0 : Nat} {r : Int32} (k0 : (zk Z a0).1 = 6) (h : f_X8_worn (zk Z) μ a0 = some r) : CtM l Z false yX8_worn cX8_worn 3 (some .int) 1 0 0 [.ref (za Z a0)] μ (some (.int r)) Z μ := ct_of rfl rfl (Nat.le_of_ble_eq_true rfl) (fun X C E => t_X8_worn μ a0 r k0 h C E)

def qX8_digest : List (Nat × Instr × Nat) := [(0, .aload_n 0, 1), (1, .iconst 0, 1), (2, .putfield 25, 3), (5, .ldc2_w 230, 3), (8, .aload_n 0, 1), (9, .getfield 33, 3), (12, .i2l, 1), (13, .ladd, 1), (14, .lstore_n 1, 1), (15, .iconst 0, 1), (16, .istore_n 3, 1), (17, .iload_n 3, 1), (18, .bipush 18, 2), (20, .if_icmp .ge 22, 3), (23, .ldc2_w 232, 3), (26, .lload_n 1, 1), (27, .lmul, 1), (28, .aload_n 0, 1), (29, .iload_n 3, 1), (30, .invokevirtual 149, 3), (33, .i2l, 1), (34, .ladd, 1), (35, .lstore_n 1, 1), (36, .iinc 3 1, 3), (39, .goto (-22), 3), (42, .iconst 0, 1), (43, .istore_n 3, 1), (44, .iload_n 3, 1), (45, .iconst 5, 1), (46, .aload_n 0, 1), (47, .getfield 7, 3), (50, .iconst 0, 1), (51, .iaload, 1), (52, .imul, 1), (53, .if_icmp .ge 27, 3), (56, .ldc2_w 232, 3), (59, .lload_n 1, 1), (60, .lmul, 1), (61, .aload_n 0, 1), (62, .iload_n 3, 1), (63, .iconst 5, 1), (64, .idiv, 1), (65, .iload_n 3, 1), (66, .iconst 5, 1), (67, .irem, 1), (68, .invokevirtual 134, 3), (71, .i2l, 1), (72, .ladd, 1), (73, .lstore_n 1, 1), (74, .iinc 3 1, 3), (77, .goto (-33), 3), (80, .iconst 0, 1), (81, .istore_n 3, 1), (82, .iload_n 3, 1), (83, .bipush 12, 2), (85, .aload_n 0, 1), (86, .getfield 7, 3), (89, .bipush 8, 2), (91, .iaload, 1), (92, .imul, 1), (93, .if_icmp .ge 58, 3), (96, .ldc2_w 232, 3), (99, .lload_n 1, 1), (100, .lmul, 1), (101, .iload_n 3, 1), (102, .bipush 12, 2), (104, .irem, 1), (105, .bipush 6, 2), (107, .if_icmp .ge 18, 3), (110, .aload_n 0, 1), (111, .iload_n 3, 1), (112, .bipush 12, 2), (114, .idiv, 1), (115, .iload_n 3, 1), (116, .bipush 12, 2), (118, .irem, 1), (119, .invokevirtual 140, 3), (122, .goto 20, 3), (125, .aload_n 0, 1), (126, .iload_n 3, 1), (127, .bipush 12, 2), (129, .idiv, 1), (130, .iconst 2, 1), (131, .iload_n 3, 1), (132, .bipush 12, 2), (134, .irem, 1), (135, .iadd, 1), (136, .bipush 6, 2), (138, .isub, 1), (139, .invokevirtual 68, 3), (142, .i2l, 1), (143, .ladd, 1), (144, .lstore_n 1, 1), (145, .iinc 3 1, 3), (148, .goto (-66), 3), (151, .iconst 0, 1), (152, .istore_n 3, 1), (153, .iload_n 3, 1), (154, .aload_n 0, 1), (155, .getfield 7, 3), (158, .bipush 9, 2), (160, .iaload, 1), (161, .if_icmp .ge 76, 3), (164, .iconst 0, 1), (165, .istore 4, 2), (167, .iload 4, 2), (169, .bipush 6, 2), (171, .if_icmp .ge 24, 3), (174, .ldc2_w 232, 3), (177, .lload_n 1, 1), (178, .lmul, 1), (179, .aload_n 0, 1), (180, .iload_n 3, 1), (181, .iload 4, 2), (183, .invokevirtual 79, 3), (186, .i2l, 1), (187, .ladd, 1), (188, .lstore_n 1, 1), (189, .iinc 4 1, 3), (192, .goto (-25), 3), (195, .iconst 0, 1), (196, .istore 4, 2), (198, .iload 4, 2), (200, .aload_n 0, 1), (201, .getfield 7, 3), (204, .bipush 8, 2), (206, .iaload, 1), (207, .if_icmp .ge 24, 3), (210, .ldc2_w 232, 3), (213, .lload_n 1, 1), (214, .lmul, 1), (215, .aload_n 0, 1), (216, .iload_n 3, 1), (217, .iload 4, 2), (219, .invokevirtual 131, 3), (222, .i2l, 1), (223, .ladd, 1), (224, .lstore_n 1, 1), (225, .iinc 4 1, 3), (228, .goto (-30), 3), (231, .iinc 3 1, 3), (234, .goto (-81), 3), (237, .ldc2_w 232, 3), (240, .lload_n 1, 1), (241, .lmul, 1), (242, .aload_n 0, 1), (243, .invokevirtual 152, 3), (246, .i2l, 1), (247, .ladd, 1), (248, .lreturn, 1)]
theorem kX8_digest : ∀ q ∈ qX8_digest, decode cX8_digest q.1 = .ok q.2 := by decide +kernel
def f_X8_digest_l17 (K : Nat → Nat × Nat) (μ : Mm) (v0 : Nat) : Nat → Int64 → Int32 → Option (Int64)
  | 0, _, _ => none
  | n + 1, v1, v3 => if 18 ≤ v3 then (some v1) else (bd (f_X8_wholeOf K μ v0 v3) fun x5 => lt1 (α := Int64) ((31 * v1) + (Int32.toInt64 x5)) fun x6 => lt1 (α := Int32) (v3 + 1) fun x7 => f_X8_digest_l17 K μ v0 n x6 x7)
def f_X8_digest_l44 (K : Nat → Nat × Nat) (μ : Mm) (v0 : Nat) : Nat → Int64 → Int32 → Option (Int64)
  | 0, _, _ => none
  | n + 1, v1, v3 => bd (rf K μ v0 0 8) fun b10 => gd (inb 0 (K b10).2) <| if (5 * (μ.1 b10 (ix 0))) ≤ v3 then (some v1) else (bd (f_X8_valueOf K μ v0 (v3 / 5) (v3 - v3 / 5 * 5)) fun x14 => lt1 (α := Int64) ((31 * v1) + (Int32.toInt64 x14)) fun x15 => lt1 (α := Int32) (v3 + 1) fun x16 => f_X8_digest_l44 K μ v0 n x15 x16)
def f_X8_digest_l82 (K : Nat → Nat × Nat) (μ : Mm) (v0 : Nat) : Nat → Int64 → Int32 → Option (Int64)
  | 0, _, _ => none
  | n + 1, v1, v3 => bd (rf K μ v0 0 8) fun b19 => gd (inb 8 (K b19).2) <| if (12 * (μ.1 b19 (ix 8))) ≤ v3 then (some v1) else (if 6 ≤ (v3 - v3 / 12 * 12) then (bd (f_X8_labelOf K μ v0 (v3 / 12) ((2 + (v3 - v3 / 12 * 12)) - 6)) fun x24 => lt1 (α := Int64) ((31 * v1) + (Int32.toInt64 x24)) fun x25 => lt1 (α := Int32) (v3 + 1) fun x26 => f_X8_digest_l82 K μ v0 n x25 x26) else (bd (f_X8_ofLabel K μ v0 (v3 / 12) (v3 - v3 / 12 * 12)) fun x28 => lt1 (α := Int64) ((31 * v1) + (Int32.toInt64 x28)) fun x29 => lt1 (α := Int32) (v3 + 1) fun x30 => f_X8_digest_l82 K μ v0 n x29 x30))
def f_X8_digest_l167 (K : Nat → Nat × Nat) (μ : Mm) (v0 : Nat) (v3 : Int32) : Nat → Int64 → Int32 → Option (Int64)
  | 0, _, _ => none
  | n + 1, v1, v4 => if 6 ≤ v4 then (some v1) else (bd (f_X8_customerOf K μ v0 v3 v4) fun x38 => lt1 (α := Int64) ((31 * v1) + (Int32.toInt64 x38)) fun x39 => lt1 (α := Int32) (v4 + 1) fun x40 => f_X8_digest_l167 K μ v0 v3 n x39 x40)
def f_X8_digest_l198 (K : Nat → Nat × Nat) (v0 : Nat) (v3 : Int32) : Nat → Mm → Int64 → Int32 → Option (Int64 × Mm)
  | 0, _, _, _ => none
  | n + 1, μ, v1, v4 => bd (rf K μ v0 0 8) fun b43 => gd (inb 8 (K b43).2) <| if (μ.1 b43 (ix 8)) ≤ v4 then (some (v1, μ)) else (bd (f_X8_best K μ v0 v3 v4) fun q46 => lt1 q46.1 fun x48 => lt1 q46.2 fun μ47 => lt1 (α := Int64) ((31 * v1) + (Int32.toInt64 x48)) fun x49 => lt1 (α := Int32) (v4 + 1) fun x50 => f_X8_digest_l198 K v0 v3 n μ47 x49 x50)
def f_X8_digest_l153 (K : Nat → Nat × Nat) (v0 : Nat) : Nat → Mm → Int64 → Int32 → Option (Int64 × Mm)
  | 0, _, _, _ => none
  | n + 1, μ, v1, v3 => bd (rf K μ v0 0 8) fun b33 => gd (inb 9 (K b33).2) <| if (μ.1 b33 (ix 9)) ≤ v3 then (some (v1, μ)) else (bd (f_X8_digest_l167 K μ v0 v3 FU v1 0) fun q41 => lt1 q41 fun x42 => bd (f_X8_digest_l198 K v0 v3 FU μ x42 0) fun q51 => lt1 q51.1 fun x52 => lt1 q51.2 fun μ53 => lt1 (α := Int32) (v3 + 1) fun x54 => f_X8_digest_l153 K v0 n μ53 x52 x54)
def f_X8_digest (K : Nat → Nat × Nat) (μ : Mm) (a0 : Nat) : Option (Int64 × Mm) :=
  lt1 (sI μ a0 7 0) fun μ1 => lt1 (α := Int64) (1346888 + (Int32.toInt64 (μ1.1 a0 3))) fun x2 => bd (f_X8_digest_l17 K μ1 a0 FU x2 0) fun q8 => lt1 q8 fun x9 => bd (f_X8_digest_l44 K μ1 a0 FU x9 0) fun q17 => lt1 q17 fun x18 => bd (f_X8_digest_l82 K μ1 a0 FU x18 0) fun q31 => lt1 q31 fun x32 => bd (f_X8_digest_l153 K a0 FU μ1 x32 0) fun q55 => lt1 q55.1 fun x56 => lt1 q55.2 fun μ57 => bd (f_X8_worn K μ57 a0) fun x59 => some (((31 * x56) + (Int32.toInt64 x59)), μ57)
set_option maxRecDepth 100000 in
set_option maxHeartbeats 4000000 in
theorem gl_X8_digest_17 {l : Launch} {Z : ZZ} {X : XX} (v0 : Nat) (k0 : (zk Z v0).1 = 6) (μ : Mm) (C : Cx l Z false X cX8_digest RX8 5 (some .long)) (E : xR X = rmm 5 0 0) : ∀ (n : Nat) (v1 : Int64) (v3 : Int32) (y : Int64), f_X8_digest_l17 (zk Z) μ v0 n v1 v3 = some y → G Z X 5 0 0 42 [(0, .ref (za Z v0)), (1, .long y)] [] (μ) → G Z X 5 0 0 17 [(0, .ref (za Z v0)), (1, .long v1), (3, .int v3)] [] μ := by
  intro n
  induction n with
  | zero => intro v1 v3 y h he; unfold f_X8_digest_l17 at h; cases h
  | succ n ih =>
    intro v1 v3 y h he
    unfold f_X8_digest_l17 at h
    refine g_iload_n C (i := 3) 2 rfl rfl (dk kX8_digest 11 rfl) ?_
    refine g_bipush C (v := 18) (by decide) (dk kX8_digest 12 rfl) ?_
    refine g_icmp_ge C (tgt := 42) (dk kX8_digest 13 rfl) (by decide) (fun c3 => ?_) (fun c3 => ?_)
    · replace h := ite_t h c3
      cases h
      exact g_sub [0, 1] rfl he
    · replace h := ite_f h c3
      refine g_ldc2 C (v := 31) (C.w wd_6_91) (dk kX8_digest 14 rfl) ?_
      refine g_lload_n C (i := 1) 1 rfl rfl (dk kX8_digest 15 rfl) ?_
      refine g_lmul C (dk kX8_digest 16 rfl) ?_
      refine g_aload_n C (i := 0) 0 rfl rfl (dk kX8_digest 17 rfl) ?_
      refine g_iload_n C (i := 3) 2 rfl rfl (dk kX8_digest 18 rfl) ?_
      obtain ⟨x5, eq4, h⟩ := bd_inv h
      refine g_callV C E (rest := [.long (31 * v1)]) 1 (ct_X8_wholeOf k0 eq4) wd_5_225 mm_X8_wholeOf ⟨rfl, by decide, by decide, by decide⟩ rfl (by decide) k0 (by decide) rfl rfl (Nat.le_of_ble_eq_true rfl) (by decide) (dk kX8_digest 19 rfl) ?_
      refine g_i2l C (dk kX8_digest 20 rfl) ?_
      refine g_ladd C (dk kX8_digest 21 rfl) ?_
      obtain ⟨x6, ex6, h⟩ := lt_inv h
      refine g_nml ex6 ?_
      refine g_lstore_n C (i := 1) (lv' := [(1, .long x6), (0, .ref (za Z v0)), (3, .int v3)]) (dk kX8_digest 22 rfl) rfl (by decide) rfl ?_
      obtain ⟨x7, ex7, h⟩ := lt_inv h
      refine g_iinc C (i := 3) (v := x7) (lv' := [(3, .int x7), (1, .long x6), (0, .ref (za Z v0))]) 2 (dk kX8_digest 23 rfl) rfl (by rw [ex7]; rfl) (by decide) rfl ?_
      refine g_goto C (tgt := 17) (dk kX8_digest 24 rfl) (by decide) ?_
      exact g_sub [2, 1, 0] rfl (ih x6 x7 y h he)
set_option maxRecDepth 100000 in
set_option maxHeartbeats 4000000 in
theorem gl_X8_digest_44 {l : Launch} {Z : ZZ} {X : XX} (v0 : Nat) (k0 : (zk Z v0).1 = 6) (μ : Mm) (C : Cx l Z false X cX8_digest RX8 5 (some .long)) (E : xR X = rmm 5 0 0) : ∀ (n : Nat) (v1 : Int64) (v3 : Int32) (y : Int64), f_X8_digest_l44 (zk Z) μ v0 n v1 v3 = some y → G Z X 5 0 0 80 [(0, .ref (za Z v0)), (1, .long y)] [] (μ) → G Z X 5 0 0 44 [(0, .ref (za Z v0)), (1, .long v1), (3, .int v3)] [] μ := by
  intro n
  induction n with
  | zero => intro v1 v3 y h he; unfold f_X8_digest_l44 at h; cases h
  | succ n ih =>
    intro v1 v3 y h he
    unfold f_X8_digest_l44 at h
    refine g_iload_n C (i := 3) 2 rfl rfl (dk kX8_digest 27 rfl) ?_
    refine g_iconst C (v := 5) (by decide) (dk kX8_digest 28 rfl) ?_
    refine g_aload_n C (i := 0) 0 rfl rfl (dk kX8_digest 29 rfl) ?_
    obtain ⟨b10, eb10, h⟩ := bd_inv h
    obtain ⟨rb10, kb10⟩ := rf_inv eb10
    refine gR_6_0 C k0 (C.w wd_5_3) rb10 (dk kX8_digest 30 rfl) ?_
    refine g_iconst C (v := 0) (by decide) (dk kX8_digest 31 rfl) ?_
    obtain ⟨c11, h⟩ := gd_inv h
    refine g_iald C kb10 c11 (dk kX8_digest 32 rfl) ?_
    refine g_imul C (dk kX8_digest 33 rfl) ?_
    refine g_icmp_ge C (tgt := 80) (dk kX8_digest 34 rfl) (by decide) (fun c12 => ?_) (fun c12 => ?_)
    · replace h := ite_t h c12
      cases h
      exact g_sub [0, 1] rfl he
    · replace h := ite_f h c12
      refine g_ldc2 C (v := 31) (C.w wd_6_91) (dk kX8_digest 35 rfl) ?_
      refine g_lload_n C (i := 1) 1 rfl rfl (dk kX8_digest 36 rfl) ?_
      refine g_lmul C (dk kX8_digest 37 rfl) ?_
      refine g_aload_n C (i := 0) 0 rfl rfl (dk kX8_digest 38 rfl) ?_
      refine g_iload_n C (i := 3) 2 rfl rfl (dk kX8_digest 39 rfl) ?_
      refine g_iconst C (v := 5) (by decide) (dk kX8_digest 40 rfl) ?_
      refine g_idiv C (by decide) (dk kX8_digest 41 rfl) ?_
      refine g_iload_n C (i := 3) 2 rfl rfl (dk kX8_digest 42 rfl) ?_
      refine g_iconst C (v := 5) (by decide) (dk kX8_digest 43 rfl) ?_
      refine g_irem C (by decide) (dk kX8_digest 44 rfl) ?_
      obtain ⟨x14, eq13, h⟩ := bd_inv h
      refine g_callV C E (rest := [.long (31 * v1)]) 2 (ct_X8_valueOf k0 eq13) wd_5_197 mm_X8_valueOf ⟨rfl, by decide, by decide, by decide⟩ rfl (by decide) k0 (by decide) rfl rfl (Nat.le_of_ble_eq_true rfl) (by decide) (dk kX8_digest 45 rfl) ?_
      refine g_i2l C (dk kX8_digest 46 rfl) ?_
      refine g_ladd C (dk kX8_digest 47 rfl) ?_
      obtain ⟨x15, ex15, h⟩ := lt_inv h
      refine g_nml ex15 ?_
      refine g_lstore_n C (i := 1) (lv' := [(1, .long x15), (0, .ref (za Z v0)), (3, .int v3)]) (dk kX8_digest 48 rfl) rfl (by decide) rfl ?_
      obtain ⟨x16, ex16, h⟩ := lt_inv h
      refine g_iinc C (i := 3) (v := x16) (lv' := [(3, .int x16), (1, .long x15), (0, .ref (za Z v0))]) 2 (dk kX8_digest 49 rfl) rfl (by rw [ex16]; rfl) (by decide) rfl ?_
      refine g_goto C (tgt := 44) (dk kX8_digest 50 rfl) (by decide) ?_
      exact g_sub [2, 1, 0] rfl (ih x15 x16 y h he)
set_option maxRecDepth 100000 in
set_option maxHeartbeats 4000000 in
theorem gl_X8_digest_82 {l : Launch} {Z : ZZ} {X : XX} (v0 : Nat) (k0 : (zk Z v0).1 = 6) (μ : Mm) (C : Cx l Z false X cX8_digest RX8 5 (some .long)) (E : xR X = rmm 5 0 0) : ∀ (n : Nat) (v1 : Int64) (v3 : Int32) (y : Int64), f_X8_digest_l82 (zk Z) μ v0 n v1 v3 = some y → G Z X 5 0 0 151 [(0, .ref (za Z v0)), (1, .long y)] [] (μ) → G Z X 5 0 0 82 [(0, .ref (za Z v0)), (1, .long v1), (3, .int v3)] [] μ := by
  intro n
  induction n with
  | zero => intro v1 v3 y h he; unfold f_X8_digest_l82 at h; cases h
  | succ n ih =>
    intro v1 v3 y h he
    unfold f_X8_digest_l82 at h
    refine g_iload_n C (i := 3) 2 rfl rfl (dk kX8_digest 53 rfl) ?_
    refine g_bipush C (v := 12) (by decide) (dk kX8_digest 54 rfl) ?_
    refine g_aload_n C (i := 0) 0 rfl rfl (dk kX8_digest 55 rfl) ?_
    obtain ⟨b19, eb19, h⟩ := bd_inv h
    obtain ⟨rb19, kb19⟩ := rf_inv eb19
    refine gR_6_0 C k0 (C.w wd_5_3) rb19 (dk kX8_digest 56 rfl) ?_
    refine g_bipush C (v := 8) (by decide) (dk kX8_digest 57 rfl) ?_
    obtain ⟨c20, h⟩ := gd_inv h
    refine g_iald C kb19 c20 (dk kX8_digest 58 rfl) ?_
    refine g_imul C (dk kX8_digest 59 rfl) ?_
    refine g_icmp_ge C (tgt := 151) (dk kX8_digest 60 rfl) (by decide) (fun c21 => ?_) (fun c21 => ?_)
    · replace h := ite_t h c21
      cases h
      exact g_sub [0, 1] rfl he
    · replace h := ite_f h c21
      refine g_ldc2 C (v := 31) (C.w wd_6_91) (dk kX8_digest 61 rfl) ?_
      refine g_lload_n C (i := 1) 1 rfl rfl (dk kX8_digest 62 rfl) ?_
      refine g_lmul C (dk kX8_digest 63 rfl) ?_
      refine g_iload_n C (i := 3) 2 rfl rfl (dk kX8_digest 64 rfl) ?_
      refine g_bipush C (v := 12) (by decide) (dk kX8_digest 65 rfl) ?_
      refine g_irem C (by decide) (dk kX8_digest 66 rfl) ?_
      refine g_bipush C (v := 6) (by decide) (dk kX8_digest 67 rfl) ?_
      refine g_icmp_ge C (tgt := 125) (dk kX8_digest 68 rfl) (by decide) (fun c22 => ?_) (fun c22 => ?_)
      · replace h := ite_t h c22
        refine g_aload_n C (i := 0) 0 rfl rfl (dk kX8_digest 78 rfl) ?_
        refine g_iload_n C (i := 3) 2 rfl rfl (dk kX8_digest 79 rfl) ?_
        refine g_bipush C (v := 12) (by decide) (dk kX8_digest 80 rfl) ?_
        refine g_idiv C (by decide) (dk kX8_digest 81 rfl) ?_
        refine g_iconst C (v := 2) (by decide) (dk kX8_digest 82 rfl) ?_
        refine g_iload_n C (i := 3) 2 rfl rfl (dk kX8_digest 83 rfl) ?_
        refine g_bipush C (v := 12) (by decide) (dk kX8_digest 84 rfl) ?_
        refine g_irem C (by decide) (dk kX8_digest 85 rfl) ?_
        refine g_iadd C (dk kX8_digest 86 rfl) ?_
        refine g_bipush C (v := 6) (by decide) (dk kX8_digest 87 rfl) ?_
        refine g_isub C (dk kX8_digest 88 rfl) ?_
        obtain ⟨x24, eq23, h⟩ := bd_inv h
        refine g_callV C E (rest := [.long (31 * v1)]) 2 (ct_X8_labelOf k0 eq23) wd_5_89 mm_X8_labelOf ⟨rfl, by decide, by decide, by decide⟩ rfl (by decide) k0 (by decide) rfl rfl (Nat.le_of_ble_eq_true rfl) (by decide) (dk kX8_digest 89 rfl) ?_
        refine g_i2l C (dk kX8_digest 90 rfl) ?_
        refine g_ladd C (dk kX8_digest 91 rfl) ?_
        obtain ⟨x25, ex25, h⟩ := lt_inv h
        refine g_nml ex25 ?_
        refine g_lstore_n C (i := 1) (lv' := [(1, .long x25), (0, .ref (za Z v0)), (3, .int v3)]) (dk kX8_digest 92 rfl) rfl (by decide) rfl ?_
        obtain ⟨x26, ex26, h⟩ := lt_inv h
        refine g_iinc C (i := 3) (v := x26) (lv' := [(3, .int x26), (1, .long x25), (0, .ref (za Z v0))]) 2 (dk kX8_digest 93 rfl) rfl (by rw [ex26]; rfl) (by decide) rfl ?_
        refine g_goto C (tgt := 82) (dk kX8_digest 94 rfl) (by decide) ?_
        exact g_sub [2, 1, 0] rfl (ih x25 x26 y h he)
      · replace h := ite_f h c22
        refine g_aload_n C (i := 0) 0 rfl rfl (dk kX8_digest 69 rfl) ?_
        refine g_iload_n C (i := 3) 2 rfl rfl (dk kX8_digest 70 rfl) ?_
        refine g_bipush C (v := 12) (by decide) (dk kX8_digest 71 rfl) ?_
        refine g_idiv C (by decide) (dk kX8_digest 72 rfl) ?_
        refine g_iload_n C (i := 3) 2 rfl rfl (dk kX8_digest 73 rfl) ?_
        refine g_bipush C (v := 12) (by decide) (dk kX8_digest 74 rfl) ?_
        refine g_irem C (by decide) (dk kX8_digest 75 rfl) ?_
        obtain ⟨x28, eq27, h⟩ := bd_inv h
        refine g_callV C E (rest := [.long (31 * v1)]) 2 (ct_X8_ofLabel k0 eq27) wd_5_205 mm_X8_ofLabel ⟨rfl, by decide, by decide, by decide⟩ rfl (by decide) k0 (by decide) rfl rfl (Nat.le_of_ble_eq_true rfl) (by decide) (dk kX8_digest 76 rfl) ?_
        refine g_goto C (tgt := 142) (dk kX8_digest 77 rfl) (by decide) ?_
        refine g_i2l C (dk kX8_digest 90 rfl) ?_
        refine g_ladd C (dk kX8_digest 91 rfl) ?_
        obtain ⟨x29, ex29, h⟩ := lt_inv h
        refine g_nml ex29 ?_
        refine g_lstore_n C (i := 1) (lv' := [(1, .long x29), (0, .ref (za Z v0)), (3, .int v3)]) (dk kX8_digest 92 rfl) rfl (by decide) rfl ?_
        obtain ⟨x30, ex30, h⟩ := lt_inv h
        refine g_iinc C (i := 3) (v := x30) (lv' := [(3, .int x30), (1, .long x29), (0, .ref (za Z v0))]) 2 (dk kX8_digest 93 rfl) rfl (by rw [ex30]; rfl) (by decide) rfl ?_
        refine g_goto C (tgt := 82) (dk kX8_digest 94 rfl) (by decide) ?_
        exact g_sub [2, 1, 0] rfl (ih x29 x30 y h he)
set_option maxRecDepth 100000 in
set_option maxHeartbeats 4000000 in
theorem gl_X8_digest_167 {l : Launch} {Z : ZZ} {X : XX} (v0 : Nat) (v3 : Int32) (k0 : (zk Z v0).1 = 6) (μ : Mm) (C : Cx l Z false X cX8_digest RX8 5 (some .long)) (E : xR X = rmm 5 0 0) : ∀ (n : Nat) (v1 : Int64) (v4 : Int32) (y : Int64), f_X8_digest_l167 (zk Z) μ v0 v3 n v1 v4 = some y → G Z X 5 0 0 195 [(0, .ref (za Z v0)), (1, .long y), (3, .int v3)] [] (μ) → G Z X 5 0 0 167 [(0, .ref (za Z v0)), (1, .long v1), (3, .int v3), (4, .int v4)] [] μ := by
  intro n
  induction n with
  | zero => intro v1 v4 y h he; unfold f_X8_digest_l167 at h; cases h
  | succ n ih =>
    intro v1 v4 y h he
    unfold f_X8_digest_l167 at h
    refine g_iload C (i := 4) 3 rfl (dk kX8_digest 105 rfl) ?_
    refine g_bipush C (v := 6) (by decide) (dk kX8_digest 106 rfl) ?_
    refine g_icmp_ge C (tgt := 195) (dk kX8_digest 107 rfl) (by decide) (fun c36 => ?_) (fun c36 => ?_)
    · replace h := ite_t h c36
      cases h
      exact g_sub [0, 1, 2] rfl he
    · replace h := ite_f h c36
      refine g_ldc2 C (v := 31) (C.w wd_6_91) (dk kX8_digest 108 rfl) ?_
      refine g_lload_n C (i := 1) 1 rfl rfl (dk kX8_digest 109 rfl) ?_
      refine g_lmul C (dk kX8_digest 110 rfl) ?_
      refine g_aload_n C (i := 0) 0 rfl rfl (dk kX8_digest 111 rfl) ?_
      refine g_iload_n C (i := 3) 2 rfl rfl (dk kX8_digest 112 rfl) ?_
      refine g_iload C (i := 4) 3 rfl (dk kX8_digest 113 rfl) ?_
      obtain ⟨x38, eq37, h⟩ := bd_inv h
      refine g_callV C E (rest := [.long (31 * v1)]) 2 (ct_X8_customerOf k0 eq37) wd_5_128 mm_X8_customerOf ⟨rfl, by decide, by decide, by decide⟩ rfl (by decide) k0 (by decide) rfl rfl (Nat.le_of_ble_eq_true rfl) (by decide) (dk kX8_digest 114 rfl) ?_
      refine g_i2l C (dk kX8_digest 115 rfl) ?_
      refine g_ladd C (dk kX8_digest 116 rfl) ?_
      obtain ⟨x39, ex39, h⟩ := lt_inv h
      refine g_nml ex39 ?_
      refine g_lstore_n C (i := 1) (lv' := [(1, .long x39), (0, .ref (za Z v0)), (3, .int v3), (4, .int v4)]) (dk kX8_digest 117 rfl) rfl (by decide) rfl ?_
      obtain ⟨x40, ex40, h⟩ := lt_inv h
      refine g_iinc C (i := 4) (v := x40) (lv' := [(4, .int x40), (1, .long x39), (0, .ref (za Z v0)), (3, .int v3)]) 3 (dk kX8_digest 118 rfl) rfl (by rw [ex40]; rfl) (by decide) rfl ?_
      refine g_goto C (tgt := 167) (dk kX8_digest 119 rfl) (by decide) ?_
      exact g_sub [2, 1, 3, 0] rfl (ih x39 x40 y h he)
set_option maxRecDepth 100000 in
set_option maxHeartbeats 4000000 in
theorem gl_X8_digest_198 {l : Launch} {Z : ZZ} {X : XX} (v0 : Nat) (v3 : Int32) (k0 : (zk Z v0).1 = 6) (C : Cx l Z false X cX8_digest RX8 5 (some .long)) (E : xR X = rmm 5 0 0) : ∀ (n : Nat) (μ : Mm) (v1 : Int64) (v4 : Int32) (y : Int64 × Mm), f_X8_digest_l198 (zk Z) v0 v3 n μ v1 v4 = some y → G Z X 5 0 0 231 [(0, .ref (za Z v0)), (1, .long y.1), (3, .int v3)] [] y.2 → G Z X 5 0 0 198 [(0, .ref (za Z v0)), (1, .long v1), (3, .int v3), (4, .int v4)] [] μ := by
  intro n
  induction n with
  | zero => intro μ v1 v4 y h he; unfold f_X8_digest_l198 at h; cases h
  | succ n ih =>
    intro μ v1 v4 y h he
    unfold f_X8_digest_l198 at h
    refine g_iload C (i := 4) 3 rfl (dk kX8_digest 122 rfl) ?_
    refine g_aload_n C (i := 0) 0 rfl rfl (dk kX8_digest 123 rfl) ?_
    obtain ⟨b43, eb43, h⟩ := bd_inv h
    obtain ⟨rb43, kb43⟩ := rf_inv eb43
    refine gR_6_0 C k0 (C.w wd_5_3) rb43 (dk kX8_digest 124 rfl) ?_
    refine g_bipush C (v := 8) (by decide) (dk kX8_digest 125 rfl) ?_
    obtain ⟨c44, h⟩ := gd_inv h
    refine g_iald C kb43 c44 (dk kX8_digest 126 rfl) ?_
    refine g_icmp_ge C (tgt := 231) (dk kX8_digest 127 rfl) (by decide) (fun c45 => ?_) (fun c45 => ?_)
    · replace h := ite_t h c45
      cases h
      exact g_sub [0, 1, 2] rfl he
    · replace h := ite_f h c45
      refine g_ldc2 C (v := 31) (C.w wd_6_91) (dk kX8_digest 128 rfl) ?_
      refine g_lload_n C (i := 1) 1 rfl rfl (dk kX8_digest 129 rfl) ?_
      refine g_lmul C (dk kX8_digest 130 rfl) ?_
      refine g_aload_n C (i := 0) 0 rfl rfl (dk kX8_digest 131 rfl) ?_
      refine g_iload_n C (i := 3) 2 rfl rfl (dk kX8_digest 132 rfl) ?_
      refine g_iload C (i := 4) 3 rfl (dk kX8_digest 133 rfl) ?_
      obtain ⟨q46, eq46, h⟩ := bd_inv h
      obtain ⟨x48, ex48, h⟩ := lt_inv h
      obtain ⟨μ47, eμ47, h⟩ := lt_inv h
      rw [show q46 = (x48, μ47) from by rw [ex48, eμ47]] at eq46
      refine g_callV C E (rest := [.long (31 * v1)]) 2 (ct_X8_best k0 eq46) wd_5_181 mm_X8_best ⟨rfl, by decide, by decide, by decide⟩ rfl (by decide) k0 (by decide) rfl rfl (Nat.le_of_ble_eq_true rfl) (by decide) (dk kX8_digest 134 rfl) ?_
      refine g_i2l C (dk kX8_digest 135 rfl) ?_
      refine g_ladd C (dk kX8_digest 136 rfl) ?_
      obtain ⟨x49, ex49, h⟩ := lt_inv h
      refine g_nml ex49 ?_
      refine g_lstore_n C (i := 1) (lv' := [(1, .long x49), (0, .ref (za Z v0)), (3, .int v3), (4, .int v4)]) (dk kX8_digest 137 rfl) rfl (by decide) rfl ?_
      obtain ⟨x50, ex50, h⟩ := lt_inv h
      refine g_iinc C (i := 4) (v := x50) (lv' := [(4, .int x50), (1, .long x49), (0, .ref (za Z v0)), (3, .int v3)]) 3 (dk kX8_digest 138 rfl) rfl (by rw [ex50]; rfl) (by decide) rfl ?_
      refine g_goto C (tgt := 198) (dk kX8_digest 139 rfl) (by decide) ?_
      exact g_sub [2, 1, 3, 0] rfl (ih μ47 x49 x50 y h he)
set_option maxRecDepth 100000 in
set_option maxHeartbeats 4000000 in
theorem gl_X8_digest_153 {l : Launch} {Z : ZZ} {X : XX} (v0 : Nat) (k0 : (zk Z v0).1 = 6) (C : Cx l Z false X cX8_digest RX8 5 (some .long)) (E : xR X = rmm 5 0 0) : ∀ (n : Nat) (μ : Mm) (v1 : Int64) (v3 : Int32) (y : Int64 × Mm), f_X8_digest_l153 (zk Z) v0 n μ v1 v3 = some y → G Z X 5 0 0 237 [(0, .ref (za Z v0)), (1, .long y.1)] [] y.2 → G Z X 5 0 0 153 [(0, .ref (za Z v0)), (1, .long v1), (3, .int v3)] [] μ := by
  intro n
  induction n with
  | zero => intro μ v1 v3 y h he; unfold f_X8_digest_l153 at h; cases h
  | succ n ih =>
    intro μ v1 v3 y h he
    unfold f_X8_digest_l153 at h
    refine g_iload_n C (i := 3) 2 rfl rfl (dk kX8_digest 97 rfl) ?_
    refine g_aload_n C (i := 0) 0 rfl rfl (dk kX8_digest 98 rfl) ?_
    obtain ⟨b33, eb33, h⟩ := bd_inv h
    obtain ⟨rb33, kb33⟩ := rf_inv eb33
    refine gR_6_0 C k0 (C.w wd_5_3) rb33 (dk kX8_digest 99 rfl) ?_
    refine g_bipush C (v := 9) (by decide) (dk kX8_digest 100 rfl) ?_
    obtain ⟨c34, h⟩ := gd_inv h
    refine g_iald C kb33 c34 (dk kX8_digest 101 rfl) ?_
    refine g_icmp_ge C (tgt := 237) (dk kX8_digest 102 rfl) (by decide) (fun c35 => ?_) (fun c35 => ?_)
    · replace h := ite_t h c35
      cases h
      exact g_sub [0, 1] rfl he
    · replace h := ite_f h c35
      refine g_iconst C (v := 0) (by decide) (dk kX8_digest 103 rfl) ?_
      refine g_istore C (i := 4) (lv' := [(4, .int 0), (0, .ref (za Z v0)), (1, .long v1), (3, .int v3)]) (dk kX8_digest 104 rfl) (by decide) rfl ?_
      obtain ⟨q41, eq41, h⟩ := bd_inv h
      refine g_sub [1, 2, 3, 0] (lv' := [(0, .ref (za Z v0)), (1, .long v1), (3, .int v3), (4, .int 0)]) rfl ?_
      refine gl_X8_digest_167 v0 v3 k0 μ C E FU v1 0 _ eq41 ?_
      obtain ⟨x42, ex42, h⟩ := lt_inv h
      rw [← ex42]
      refine g_iconst C (v := 0) (by decide) (dk kX8_digest 120 rfl) ?_
      refine g_istore C (i := 4) (lv' := [(4, .int 0), (0, .ref (za Z v0)), (1, .long x42), (3, .int v3)]) (dk kX8_digest 121 rfl) (by decide) rfl ?_
      obtain ⟨q51, eq51, h⟩ := bd_inv h
      refine g_sub [1, 2, 3, 0] (lv' := [(0, .ref (za Z v0)), (1, .long x42), (3, .int v3), (4, .int 0)]) rfl ?_
      refine gl_X8_digest_198 v0 v3 k0 C E FU μ x42 0 _ eq51 ?_
      obtain ⟨x52, ex52, h⟩ := lt_inv h
      obtain ⟨μ53, eμ53, h⟩ := lt_inv h
      rw [← ex52, ← eμ53]
      obtain ⟨x54, ex54, h⟩ := lt_inv h
      refine g_iinc C (i := 3) (v := x54) (lv' := [(3, .int x54), (0, .ref (za Z v0)), (1, .long x52)]) 2 (dk kX8_digest 140 rfl) rfl (by rw [ex54]; rfl) (by decide) rfl ?_
      refine g_goto C (tgt := 153) (dk kX8_digest 141 rfl) (by decide) ?_
      exact g_sub [1, 2, 0] rfl (ih μ53 x52 x54 y h he)
set_option maxRecDepth 100000 in
set_option maxHeartbeats 4000000 in
theorem t_X8_digest {l : Launch} {Z : ZZ} {X : XX} (μ : Mm) (a0 : Nat) (r : Int64) (μ' : Mm) (k0 : (zk Z a0).1 = 6) (h : f_X8_digest (zk Z) μ a0 = some (r, μ')) (C : Cx l Z false X cX8_digest RX8 5 (some .long)) (E : Ex Z X 5 0 0 (some (.long r)) Z μ') : G Z X 5 0 0 0 [(0, .ref (za Z a0))] [] μ := by
  unfold f_X8_digest at h
  refine g_aload_n C (i := 0) 0 rfl rfl (dk kX8_digest 0 rfl) ?_
  refine g_iconst C (v := 0) (by decide) (dk kX8_digest 1 rfl) ?_
  obtain ⟨μ1, eμ1, h⟩ := lt_inv h
  refine pI_6_7 C k0 (C.w wd_5_10) eμ1 (dk kX8_digest 2 rfl) ?_
  refine g_ldc2 C (v := 1346888) (C.w wd_6_90) (dk kX8_digest 3 rfl) ?_
  refine g_aload_n C (i := 0) 0 rfl rfl (dk kX8_digest 4 rfl) ?_
  refine gI_6_3 C k0 (C.w wd_5_6) (dk kX8_digest 5 rfl) ?_
  refine g_i2l C (dk kX8_digest 6 rfl) ?_
  refine g_ladd C (dk kX8_digest 7 rfl) ?_
  obtain ⟨x2, ex2, h⟩ := lt_inv h
  refine g_nml ex2 ?_
  refine g_lstore_n C (i := 1) (lv' := [(1, .long x2), (0, .ref (za Z a0))]) (dk kX8_digest 8 rfl) rfl (by decide) rfl ?_
  refine g_iconst C (v := 0) (by decide) (dk kX8_digest 9 rfl) ?_
  refine g_istore_n C (i := 3) (lv' := [(3, .int 0), (1, .long x2), (0, .ref (za Z a0))]) (dk kX8_digest 10 rfl) rfl (by decide) rfl ?_
  obtain ⟨q8, eq8, h⟩ := bd_inv h
  refine g_sub [2, 1, 0] (lv' := [(0, .ref (za Z a0)), (1, .long x2), (3, .int 0)]) rfl ?_
  refine gl_X8_digest_17 a0 k0 μ1 C E.2 FU x2 0 _ eq8 ?_
  obtain ⟨x9, ex9, h⟩ := lt_inv h
  rw [← ex9]
  refine g_iconst C (v := 0) (by decide) (dk kX8_digest 25 rfl) ?_
  refine g_istore_n C (i := 3) (lv' := [(3, .int 0), (0, .ref (za Z a0)), (1, .long x9)]) (dk kX8_digest 26 rfl) rfl (by decide) rfl ?_
  obtain ⟨q17, eq17, h⟩ := bd_inv h
  refine g_sub [1, 2, 0] (lv' := [(0, .ref (za Z a0)), (1, .long x9), (3, .int 0)]) rfl ?_
  refine gl_X8_digest_44 a0 k0 μ1 C E.2 FU x9 0 _ eq17 ?_
  obtain ⟨x18, ex18, h⟩ := lt_inv h
  rw [← ex18]
  refine g_iconst C (v := 0) (by decide) (dk kX8_digest 51 rfl) ?_
  refine g_istore_n C (i := 3) (lv' := [(3, .int 0), (0, .ref (za Z a0)), (1, .long x18)]) (dk kX8_digest 52 rfl) rfl (by decide) rfl ?_
  obtain ⟨q31, eq31, h⟩ := bd_inv h
  refine g_sub [1, 2, 0] (lv' := [(0, .ref (za Z a0)), (1, .long x18), (3, .int 0)]) rfl ?_
  refine gl_X8_digest_82 a0 k0 μ1 C E.2 FU x18 0 _ eq31 ?_
  obtain ⟨x32, ex32, h⟩ := lt_inv h
  rw [← ex32]
  refine g_iconst C (v := 0) (by decide) (dk kX8_digest 95 rfl) ?_
  refine g_istore_n C (i := 3) (lv' := [(3, .int 0), (0, .ref (za Z a0)), (1, .long x32)]) (dk kX8_digest 96 rfl) rfl (by decide) rfl ?_
  obtain ⟨q55, eq55, h⟩ := bd_inv h
  refine g_sub [1, 2, 0] (lv' := [(0, .ref (za Z a0)), (1, .long x32), (3, .int 0)]) rfl ?_
  refine gl_X8_digest_153 a0 k0 C E.2 FU μ1 x32 0 _ eq55 ?_
  obtain ⟨x56, ex56, h⟩ := lt_inv h
  obtain ⟨μ57, eμ57, h⟩ := lt_inv h
  rw [← ex56, ← eμ57]
  refine g_ldc2 C (v := 31) (C.w wd_6_91) (dk kX8_digest 142 rfl) ?_
  refine g_lload_n C (i := 1) 1 rfl rfl (dk kX8_digest 143 rfl) ?_
  refine g_lmul C (dk kX8_digest 144 rfl) ?_
  refine g_aload_n C (i := 0) 0 rfl rfl (dk kX8_digest 145 rfl) ?_
  obtain ⟨x59, eq58, h⟩ := bd_inv h
  refine g_callV C E.2 (rest := [.long (31 * x56)]) 0 (ct_X8_worn k0 eq58) wd_6_17 mm_X8_worn ⟨rfl, by decide, by decide, by decide⟩ rfl (by decide) k0 (by decide) rfl rfl (Nat.le_of_ble_eq_true rfl) (by decide) (dk kX8_digest 146 rfl) ?_
  refine g_i2l C (dk kX8_digest 147 rfl) ?_
  refine g_ladd C (dk kX8_digest 148 rfl) ?_
  obtain ⟨h8, h9⟩ := Prod.mk.inj (Option.some.inj h)
  subst h8
  subst h9
  exact g_lret C E (Nat.le_refl 0) (Nat.le_refl 0) (dk kX8_digest 149 rfl)
theorem ct_X8_digest {l : Launch} {Z : ZZ} {μ : Mm} {a0 : Nat} {r : Int64} {μ' : Mm} (k0 : (zk Z a0).1 = 6) (h : f_X8_digest (zk Z) μ a0 = some (r, μ')) : CtM l Z false yX8_digest cX8_digest 5 (some .long) 5 0 0 [.ref (za Z a0)] μ (some (.long r)) Z μ' := ct_of rfl rfl (Nat.le_of_ble_eq_true rfl) (fun X C E => t_X8_digest μ a0 r μ' k0 h C E)

def qX8_setRow : List (Nat × Instr × Nat) := [(0, .aload_n 0, 1), (1, .aload_n 0, 1), (2, .iload_n 1, 1), (3, .invokevirtual 65, 3), (6, .ifCond .ne 7, 3), (9, .iconst 1, 1), (10, .goto 35, 3), (13, .iload_n 2, 1), (14, .iconst 0, 1), (15, .iconst 5, 1), (16, .invokestatic 36, 3), (19, .ifCond .eq 21, 3), (22, .iload_n 3, 1), (23, .iconst 0, 1), (24, .iconst 1, 1), (25, .aload_n 0, 1), (26, .iload_n 1, 1), (27, .iconst 0, 1), (28, .invokevirtual 68, 3), (31, .ishl, 1), (32, .iconst 1, 1), (33, .isub, 1), (34, .invokestatic 36, 3), (37, .ifCond .ne 7, 3), (40, .iconst 2, 1), (41, .goto 4, 3), (44, .iconst 0, 1), (45, .invokevirtual 44, 3), (48, .ifCond .eq 5, 3), (51, .iconst 0, 1), (52, .ireturn, 1), (53, .aload_n 0, 1), (54, .invokevirtual 48, 3), (57, .aload_n 0, 1), (58, .iload_n 1, 1), (59, .iconst 2, 1), (60, .iload_n 2, 1), (61, .iadd, 1), (62, .invokevirtual 68, 3), (65, .istore 4, 2), (67, .aload_n 0, 1), (68, .getfield 7, 3), (71, .bipush 86, 2), (73, .bipush 10, 2), (75, .iload_n 1, 1), (76, .imul, 1), (77, .iadd, 1), (78, .iconst 2, 1), (79, .iadd, 1), (80, .iload_n 2, 1), (81, .iadd, 1), (82, .iload_n 3, 1), (83, .iastore, 1), (84, .iload 4, 2), (86, .ireturn, 1)]
theorem kX8_setRow : ∀ q ∈ qX8_setRow, decode cX8_setRow q.1 = .ok q.2 := by decide +kernel
def f_X8_setRow (K : Nat → Nat × Nat) (μ : Mm) (a0 : Nat) (a1 : Int32) (a2 : Int32) (a3 : Int32) : Option (Int32 × Mm) :=
  bd (f_X8_isLabel K μ a0 a1) fun x2 => if x2 = 0 then (bd (f_X8_throwsAt K μ a0 1) fun q36 => lt1 q36.1 fun x38 => lt1 q36.2 fun μ37 => if x38 = 0 then (bd (f_X8_saves K μ37 a0) fun μ41 => bd (f_X8_labelOf K μ41 a0 a1 (2 + a2)) fun x43 => bd (rf K μ41 a0 0 8) fun b44 => gd (inb (((86 + (10 * a1)) + 2) + a2) (K b44).2) <| lt1 (sI μ41 b44 (ix (((86 + (10 * a1)) + 2) + a2)) a3) fun μ46 => some (x43, μ46)) else (some (0, μ37))) else (bd (f_X8_in a2 0 5) fun x5 => if x5 = 0 then (bd (f_X8_throwsAt K μ a0 2) fun q7 => lt1 q7.1 fun x9 => lt1 q7.2 fun μ8 => if x9 = 0 then (bd (f_X8_saves K μ8 a0) fun μ12 => bd (f_X8_labelOf K μ12 a0 a1 (2 + a2)) fun x14 => bd (rf K μ12 a0 0 8) fun b15 => gd (inb (((86 + (10 * a1)) + 2) + a2) (K b15).2) <| lt1 (sI μ12 b15 (ix (((86 + (10 * a1)) + 2) + a2)) a3) fun μ17 => some (x14, μ17)) else (some (0, μ8))) else (bd (f_X8_labelOf K μ a0 a1 0) fun x19 => bd (f_X8_in a3 0 ((1 <<< (x19 &&& 31)) - 1)) fun x21 => lt1 (α := Int32) (if x21 = 0 then 2 else 0) fun x22 => bd (f_X8_throwsAt K μ a0 x22) fun q24 => lt1 q24.1 fun x26 => lt1 q24.2 fun μ25 => if x26 = 0 then (bd (f_X8_saves K μ25 a0) fun μ29 => bd (f_X8_labelOf K μ29 a0 a1 (2 + a2)) fun x31 => bd (rf K μ29 a0 0 8) fun b32 => gd (inb (((86 + (10 * a1)) + 2) + a2) (K b32).2) <| lt1 (sI μ29 b32 (ix (((86 + (10 * a1)) + 2) + a2)) a3) fun μ34 => some (x31, μ34)) else (some (0, μ25))))
set_option maxRecDepth 100000 in
set_option maxHeartbeats 4000000 in
theorem t_X8_setRow {l : Launch} {Z : ZZ} {X : XX} (μ : Mm) (a0 : Nat) (a1 : Int32) (a2 : Int32) (a3 : Int32) (r : Int32) (μ' : Mm) (k0 : (zk Z a0).1 = 6) (h : f_X8_setRow (zk Z) μ a0 a1 a2 a3 = some (r, μ')) (C : Cx l Z false X cX8_setRow RX8 5 (some .int)) (E : Ex Z X 2 0 0 (some (.int r)) Z μ') : G Z X 5 0 0 0 [(0, .ref (za Z a0)), (1, .int a1), (2, .int a2), (3, .int a3)] [] μ := by
  unfold f_X8_setRow at h
  refine g_aload_n C (i := 0) 0 rfl rfl (dk kX8_setRow 0 rfl) ?_
  refine g_aload_n C (i := 0) 0 rfl rfl (dk kX8_setRow 1 rfl) ?_
  refine g_iload_n C (i := 1) 1 rfl rfl (dk kX8_setRow 2 rfl) ?_
  obtain ⟨x2, eq1, h⟩ := bd_inv h
  refine g_callV C E.2 (rest := [.ref (za Z a0)]) 1 (ct_X8_isLabel k0 eq1) wd_5_85 mm_X8_isLabel ⟨rfl, by decide, by decide, by decide⟩ rfl (by decide) k0 (by decide) rfl rfl (Nat.le_of_ble_eq_true rfl) (by decide) (dk kX8_setRow 3 rfl) ?_
  refine g_if_ne C (tgt := 13) (dk kX8_setRow 4 rfl) (by decide) (fun c3 => ?_) (fun c3 => ?_)
  · replace h := ite_f h c3
    refine g_iload_n C (i := 2) 2 rfl rfl (dk kX8_setRow 7 rfl) ?_
    refine g_iconst C (v := 0) (by decide) (dk kX8_setRow 8 rfl) ?_
    refine g_iconst C (v := 5) (by decide) (dk kX8_setRow 9 rfl) ?_
    obtain ⟨x5, eq4, h⟩ := bd_inv h
    refine g_callS C E.2 (rest := [.ref (za Z a0)]) 3 (ct_X8_in  eq4) wd_5_45 mm_X8_in ⟨by decide, by decide, by decide⟩ rfl (by decide) rfl (Nat.le_of_ble_eq_true rfl) (by decide) (dk kX8_setRow 10 rfl) ?_
    refine g_if_eq C (tgt := 40) (dk kX8_setRow 11 rfl) (by decide) (fun c6 => ?_) (fun c6 => ?_)
    · replace h := ite_t h c6
      refine g_iconst C (v := 2) (by decide) (dk kX8_setRow 24 rfl) ?_
      refine g_goto C (tgt := 45) (dk kX8_setRow 25 rfl) (by decide) ?_
      obtain ⟨q7, eq7, h⟩ := bd_inv h
      obtain ⟨x9, ex9, h⟩ := lt_inv h
      obtain ⟨μ8, eμ8, h⟩ := lt_inv h
      rw [show q7 = (x9, μ8) from by rw [ex9, eμ8]] at eq7
      refine g_callV C E.2 (rest := []) 1 (ct_X8_throwsAt k0 eq7) wd_5_48 mm_X8_throwsAt ⟨rfl, by decide, by decide, by decide⟩ rfl (by decide) k0 (by decide) rfl rfl (Nat.le_of_ble_eq_true rfl) (by decide) (dk kX8_setRow 27 rfl) ?_
      refine g_if_eq C (tgt := 53) (dk kX8_setRow 28 rfl) (by decide) (fun c10 => ?_) (fun c10 => ?_)
      · replace h := ite_t h c10
        refine g_aload_n C (i := 0) 0 rfl rfl (dk kX8_setRow 31 rfl) ?_
        obtain ⟨μ12, eq11, h⟩ := bd_inv h
        refine g_callV C E.2 (rest := []) 0 (ct_X8_saves k0 eq11) wd_5_52 mm_X8_saves ⟨rfl, by decide, by decide, by decide⟩ rfl (by decide) k0 (by decide) rfl rfl (Nat.le_of_ble_eq_true rfl) (by decide) (dk kX8_setRow 32 rfl) ?_
        refine g_aload_n C (i := 0) 0 rfl rfl (dk kX8_setRow 33 rfl) ?_
        refine g_iload_n C (i := 1) 1 rfl rfl (dk kX8_setRow 34 rfl) ?_
        refine g_iconst C (v := 2) (by decide) (dk kX8_setRow 35 rfl) ?_
        refine g_iload_n C (i := 2) 2 rfl rfl (dk kX8_setRow 36 rfl) ?_
        refine g_iadd C (dk kX8_setRow 37 rfl) ?_
        obtain ⟨x14, eq13, h⟩ := bd_inv h
        refine g_callV C E.2 (rest := []) 2 (ct_X8_labelOf k0 eq13) wd_5_89 mm_X8_labelOf ⟨rfl, by decide, by decide, by decide⟩ rfl (by decide) k0 (by decide) rfl rfl (Nat.le_of_ble_eq_true rfl) (by decide) (dk kX8_setRow 38 rfl) ?_
        refine g_istore C (i := 4) (lv' := [(4, .int x14), (0, .ref (za Z a0)), (1, .int a1), (2, .int a2), (3, .int a3)]) (dk kX8_setRow 39 rfl) (by decide) rfl ?_
        refine g_aload_n C (i := 0) 1 rfl rfl (dk kX8_setRow 40 rfl) ?_
        obtain ⟨b15, eb15, h⟩ := bd_inv h
        obtain ⟨rb15, kb15⟩ := rf_inv eb15
        refine gR_6_0 C k0 (C.w wd_5_3) rb15 (dk kX8_setRow 41 rfl) ?_
        refine g_bipush C (v := 86) (by decide) (dk kX8_setRow 42 rfl) ?_
        refine g_bipush C (v := 10) (by decide) (dk kX8_setRow 43 rfl) ?_
        refine g_iload_n C (i := 1) 2 rfl rfl (dk kX8_setRow 44 rfl) ?_
        refine g_imul C (dk kX8_setRow 45 rfl) ?_
        refine g_iadd C (dk kX8_setRow 46 rfl) ?_
        refine g_iconst C (v := 2) (by decide) (dk kX8_setRow 47 rfl) ?_
        refine g_iadd C (dk kX8_setRow 48 rfl) ?_
        refine g_iload_n C (i := 2) 3 rfl rfl (dk kX8_setRow 49 rfl) ?_
        refine g_iadd C (dk kX8_setRow 50 rfl) ?_
        refine g_iload_n C (i := 3) 4 rfl rfl (dk kX8_setRow 51 rfl) ?_
        obtain ⟨c16, h⟩ := gd_inv h
        obtain ⟨μ17, eμ17, h⟩ := lt_inv h
        refine g_iast C kb15 c16 eμ17 (dk kX8_setRow 52 rfl) ?_
        refine g_iload C (i := 4) 0 rfl (dk kX8_setRow 53 rfl) ?_
        obtain ⟨h8, h9⟩ := Prod.mk.inj (Option.some.inj h)
        subst h8
        subst h9
        exact g_iret C E rfl rfl (Nat.le_refl 0) (Nat.le_refl 0) (dk kX8_setRow 54 rfl)
      · replace h := ite_f h c10
        refine g_iconst C (v := 0) (by decide) (dk kX8_setRow 29 rfl) ?_
        obtain ⟨h8, h9⟩ := Prod.mk.inj (Option.some.inj h)
        subst h8
        subst h9
        exact g_iret C E rfl rfl (Nat.le_refl 0) (Nat.le_refl 0) (dk kX8_setRow 30 rfl)
    · replace h := ite_f h c6
      refine g_iload_n C (i := 3) 3 rfl rfl (dk kX8_setRow 12 rfl) ?_
      refine g_iconst C (v := 0) (by decide) (dk kX8_setRow 13 rfl) ?_
      refine g_iconst C (v := 1) (by decide) (dk kX8_setRow 14 rfl) ?_
      refine g_aload_n C (i := 0) 0 rfl rfl (dk kX8_setRow 15 rfl) ?_
      refine g_iload_n C (i := 1) 1 rfl rfl (dk kX8_setRow 16 rfl) ?_
      refine g_iconst C (v := 0) (by decide) (dk kX8_setRow 17 rfl) ?_
      obtain ⟨x19, eq18, h⟩ := bd_inv h
      refine g_callV C E.2 (rest := [.int 1, .int 0, .int a3, .ref (za Z a0)]) 2 (ct_X8_labelOf k0 eq18) wd_5_89 mm_X8_labelOf ⟨rfl, by decide, by decide, by decide⟩ rfl (by decide) k0 (by decide) rfl rfl (Nat.le_of_ble_eq_true rfl) (by decide) (dk kX8_setRow 18 rfl) ?_
      refine g_ishl C (dk kX8_setRow 19 rfl) ?_
      refine g_iconst C (v := 1) (by decide) (dk kX8_setRow 20 rfl) ?_
      refine g_isub C (dk kX8_setRow 21 rfl) ?_
      obtain ⟨x21, eq20, h⟩ := bd_inv h
      refine g_callS C E.2 (rest := [.ref (za Z a0)]) 3 (ct_X8_in  eq20) wd_5_45 mm_X8_in ⟨by decide, by decide, by decide⟩ rfl (by decide) rfl (Nat.le_of_ble_eq_true rfl) (by decide) (dk kX8_setRow 22 rfl) ?_
      obtain ⟨x22, ex22, h⟩ := lt_inv h
      have kj23 : G Z X 5 0 0 45 [(0, .ref (za Z a0)), (1, .int a1), (2, .int a2), (3, .int a3)] [.int x22, .ref (za Z a0)] μ := by
        obtain ⟨q24, eq24, h⟩ := bd_inv h
        obtain ⟨x26, ex26, h⟩ := lt_inv h
        obtain ⟨μ25, eμ25, h⟩ := lt_inv h
        rw [show q24 = (x26, μ25) from by rw [ex26, eμ25]] at eq24
        refine g_callV C E.2 (rest := []) 1 (ct_X8_throwsAt k0 eq24) wd_5_48 mm_X8_throwsAt ⟨rfl, by decide, by decide, by decide⟩ rfl (by decide) k0 (by decide) rfl rfl (Nat.le_of_ble_eq_true rfl) (by decide) (dk kX8_setRow 27 rfl) ?_
        refine g_if_eq C (tgt := 53) (dk kX8_setRow 28 rfl) (by decide) (fun c27 => ?_) (fun c27 => ?_)
        · replace h := ite_t h c27
          refine g_aload_n C (i := 0) 0 rfl rfl (dk kX8_setRow 31 rfl) ?_
          obtain ⟨μ29, eq28, h⟩ := bd_inv h
          refine g_callV C E.2 (rest := []) 0 (ct_X8_saves k0 eq28) wd_5_52 mm_X8_saves ⟨rfl, by decide, by decide, by decide⟩ rfl (by decide) k0 (by decide) rfl rfl (Nat.le_of_ble_eq_true rfl) (by decide) (dk kX8_setRow 32 rfl) ?_
          refine g_aload_n C (i := 0) 0 rfl rfl (dk kX8_setRow 33 rfl) ?_
          refine g_iload_n C (i := 1) 1 rfl rfl (dk kX8_setRow 34 rfl) ?_
          refine g_iconst C (v := 2) (by decide) (dk kX8_setRow 35 rfl) ?_
          refine g_iload_n C (i := 2) 2 rfl rfl (dk kX8_setRow 36 rfl) ?_
          refine g_iadd C (dk kX8_setRow 37 rfl) ?_
          obtain ⟨x31, eq30, h⟩ := bd_inv h
          refine g_callV C E.2 (rest := []) 2 (ct_X8_labelOf k0 eq30) wd_5_89 mm_X8_labelOf ⟨rfl, by decide, by decide, by decide⟩ rfl (by decide) k0 (by decide) rfl rfl (Nat.le_of_ble_eq_true rfl) (by decide) (dk kX8_setRow 38 rfl) ?_
          refine g_istore C (i := 4) (lv' := [(4, .int x31), (0, .ref (za Z a0)), (1, .int a1), (2, .int a2), (3, .int a3)]) (dk kX8_setRow 39 rfl) (by decide) rfl ?_
          refine g_aload_n C (i := 0) 1 rfl rfl (dk kX8_setRow 40 rfl) ?_
          obtain ⟨b32, eb32, h⟩ := bd_inv h
          obtain ⟨rb32, kb32⟩ := rf_inv eb32
          refine gR_6_0 C k0 (C.w wd_5_3) rb32 (dk kX8_setRow 41 rfl) ?_
          refine g_bipush C (v := 86) (by decide) (dk kX8_setRow 42 rfl) ?_
          refine g_bipush C (v := 10) (by decide) (dk kX8_setRow 43 rfl) ?_
          refine g_iload_n C (i := 1) 2 rfl rfl (dk kX8_setRow 44 rfl) ?_
          refine g_imul C (dk kX8_setRow 45 rfl) ?_
          refine g_iadd C (dk kX8_setRow 46 rfl) ?_
          refine g_iconst C (v := 2) (by decide) (dk kX8_setRow 47 rfl) ?_
          refine g_iadd C (dk kX8_setRow 48 rfl) ?_
          refine g_iload_n C (i := 2) 3 rfl rfl (dk kX8_setRow 49 rfl) ?_
          refine g_iadd C (dk kX8_setRow 50 rfl) ?_
          refine g_iload_n C (i := 3) 4 rfl rfl (dk kX8_setRow 51 rfl) ?_
          obtain ⟨c33, h⟩ := gd_inv h
          obtain ⟨μ34, eμ34, h⟩ := lt_inv h
          refine g_iast C kb32 c33 eμ34 (dk kX8_setRow 52 rfl) ?_
          refine g_iload C (i := 4) 0 rfl (dk kX8_setRow 53 rfl) ?_
          obtain ⟨h8, h9⟩ := Prod.mk.inj (Option.some.inj h)
          subst h8
          subst h9
          exact g_iret C E rfl rfl (Nat.le_refl 0) (Nat.le_refl 0) (dk kX8_setRow 54 rfl)
        · replace h := ite_f h c27
          refine g_iconst C (v := 0) (by decide) (dk kX8_setRow 29 rfl) ?_
          obtain ⟨h8, h9⟩ := Prod.mk.inj (Option.some.inj h)
          subst h8
          subst h9
          exact g_iret C E rfl rfl (Nat.le_refl 0) (Nat.le_refl 0) (dk kX8_setRow 30 rfl)
      clear h
      refine g_if_ne C (tgt := 44) (dk kX8_setRow 23 rfl) (by decide) (fun c35 => ?_) (fun c35 => ?_)
      · refine g_iconst C (v := 0) (by decide) (dk kX8_setRow 26 rfl) ?_
        exact g_nmi (by rw [ex22, if_neg c35]) kj23
      · refine g_iconst C (v := 2) (by decide) (dk kX8_setRow 24 rfl) ?_
        refine g_goto C (tgt := 45) (dk kX8_setRow 25 rfl) (by decide) ?_
        exact g_nmi (by rw [ex22, if_pos c35]) kj23
  · replace h := ite_t h c3
    refine g_iconst C (v := 1) (by decide) (dk kX8_setRow 5 rfl) ?_
    refine g_goto C (tgt := 45) (dk kX8_setRow 6 rfl) (by decide) ?_
    obtain ⟨q36, eq36, h⟩ := bd_inv h
    obtain ⟨x38, ex38, h⟩ := lt_inv h
    obtain ⟨μ37, eμ37, h⟩ := lt_inv h
    rw [show q36 = (x38, μ37) from by rw [ex38, eμ37]] at eq36
    refine g_callV C E.2 (rest := []) 1 (ct_X8_throwsAt k0 eq36) wd_5_48 mm_X8_throwsAt ⟨rfl, by decide, by decide, by decide⟩ rfl (by decide) k0 (by decide) rfl rfl (Nat.le_of_ble_eq_true rfl) (by decide) (dk kX8_setRow 27 rfl) ?_
    refine g_if_eq C (tgt := 53) (dk kX8_setRow 28 rfl) (by decide) (fun c39 => ?_) (fun c39 => ?_)
    · replace h := ite_t h c39
      refine g_aload_n C (i := 0) 0 rfl rfl (dk kX8_setRow 31 rfl) ?_
      obtain ⟨μ41, eq40, h⟩ := bd_inv h
      refine g_callV C E.2 (rest := []) 0 (ct_X8_saves k0 eq40) wd_5_52 mm_X8_saves ⟨rfl, by decide, by decide, by decide⟩ rfl (by decide) k0 (by decide) rfl rfl (Nat.le_of_ble_eq_true rfl) (by decide) (dk kX8_setRow 32 rfl) ?_
      refine g_aload_n C (i := 0) 0 rfl rfl (dk kX8_setRow 33 rfl) ?_
      refine g_iload_n C (i := 1) 1 rfl rfl (dk kX8_setRow 34 rfl) ?_
      refine g_iconst C (v := 2) (by decide) (dk kX8_setRow 35 rfl) ?_
      refine g_iload_n C (i := 2) 2 rfl rfl (dk kX8_setRow 36 rfl) ?_
      refine g_iadd C (dk kX8_setRow 37 rfl) ?_
      obtain ⟨x43, eq42, h⟩ := bd_inv h
      refine g_callV C E.2 (rest := []) 2 (ct_X8_labelOf k0 eq42) wd_5_89 mm_X8_labelOf ⟨rfl, by decide, by decide, by decide⟩ rfl (by decide) k0 (by decide) rfl rfl (Nat.le_of_ble_eq_true rfl) (by decide) (dk kX8_setRow 38 rfl) ?_
      refine g_istore C (i := 4) (lv' := [(4, .int x43), (0, .ref (za Z a0)), (1, .int a1), (2, .int a2), (3, .int a3)]) (dk kX8_setRow 39 rfl) (by decide) rfl ?_
      refine g_aload_n C (i := 0) 1 rfl rfl (dk kX8_setRow 40 rfl) ?_
      obtain ⟨b44, eb44, h⟩ := bd_inv h
      obtain ⟨rb44, kb44⟩ := rf_inv eb44
      refine gR_6_0 C k0 (C.w wd_5_3) rb44 (dk kX8_setRow 41 rfl) ?_
      refine g_bipush C (v := 86) (by decide) (dk kX8_setRow 42 rfl) ?_
      refine g_bipush C (v := 10) (by decide) (dk kX8_setRow 43 rfl) ?_
      refine g_iload_n C (i := 1) 2 rfl rfl (dk kX8_setRow 44 rfl) ?_
      refine g_imul C (dk kX8_setRow 45 rfl) ?_
      refine g_iadd C (dk kX8_setRow 46 rfl) ?_
      refine g_iconst C (v := 2) (by decide) (dk kX8_setRow 47 rfl) ?_
      refine g_iadd C (dk kX8_setRow 48 rfl) ?_
      refine g_iload_n C (i := 2) 3 rfl rfl (dk kX8_setRow 49 rfl) ?_
      refine g_iadd C (dk kX8_setRow 50 rfl) ?_
      refine g_iload_n C (i := 3) 4 rfl rfl (dk kX8_setRow 51 rfl) ?_
      obtain ⟨c45, h⟩ := gd_inv h
      obtain ⟨μ46, eμ46, h⟩ := lt_inv h
      refine g_iast C kb44 c45 eμ46 (dk kX8_setRow 52 rfl) ?_
      refine g_iload C (i := 4) 0 rfl (dk kX8_setRow 53 rfl) ?_
      obtain ⟨h8, h9⟩ := Prod.mk.inj (Option.some.inj h)
      subst h8
      subst h9
      exact g_iret C E rfl rfl (Nat.le_refl 0) (Nat.le_refl 0) (dk kX8_setRow 54 rfl)
    · replace h := ite_f h c39
      refine g_iconst C (v := 0) (by decide) (dk kX8_setRow 29 rfl) ?_
      obtain ⟨h8, h9⟩ := Prod.mk.inj (Option.some.inj h)
      subst h8
      subst h9
      exact g_iret C E rfl rfl (Nat.le_refl 0) (Nat.le_refl 0) (dk kX8_setRow 30 rfl)
theorem ct_X8_setRow {l : Launch} {Z : ZZ} {μ : Mm} {a0 : Nat} {a1 : Int32} {a2 : Int32} {a3 : Int32} {r : Int32} {μ' : Mm} (k0 : (zk Z a0).1 = 6) (h : f_X8_setRow (zk Z) μ a0 a1 a2 a3 = some (r, μ')) : CtM l Z false yX8_setRow cX8_setRow 5 (some .int) 2 0 0 [.ref (za Z a0), .int a1, .int a2, .int a3] μ (some (.int r)) Z μ' := ct_of rfl rfl (Nat.le_of_ble_eq_true rfl) (fun X C E => t_X8_setRow μ a0 a1 a2 a3 r μ' k0 h C E)

def qX8_isDot : List (Nat × Instr × Nat) := [(0, .iload_n 1, 1), (1, .iconst 0, 1), (2, .aload_n 0, 1), (3, .getfield 7, 3), (6, .iconst 0, 1), (7, .iaload, 1), (8, .iconst 1, 1), (9, .isub, 1), (10, .invokestatic 36, 3), (13, .ireturn, 1)]
theorem kX8_isDot : ∀ q ∈ qX8_isDot, decode cX8_isDot q.1 = .ok q.2 := by decide +kernel
def f_X8_isDot (K : Nat → Nat × Nat) (μ : Mm) (a0 : Nat) (a1 : Int32) : Option (Int32) :=
  bd (rf K μ a0 0 8) fun b1 => gd (inb 0 (K b1).2) <| bd (f_X8_in a1 0 ((μ.1 b1 (ix 0)) - 1)) fun x4 => gd (x4 = 0 ∨ x4 = 1) <| some x4
set_option maxRecDepth 100000 in
set_option maxHeartbeats 4000000 in
theorem t_X8_isDot {l : Launch} {Z : ZZ} {X : XX} (μ : Mm) (a0 : Nat) (a1 : Int32) (r : Int32) (k0 : (zk Z a0).1 = 6) (h : f_X8_isDot (zk Z) μ a0 a1 = some r) (C : Cx l Z false X cX8_isDot RX8 2 (some .boolean)) (E : Ex Z X 1 0 0 (some (.int r)) Z μ) : G Z X 2 0 0 0 [(0, .ref (za Z a0)), (1, .int a1)] [] μ := by
  unfold f_X8_isDot at h
  refine g_iload_n C (i := 1) 1 rfl rfl (dk kX8_isDot 0 rfl) ?_
  refine g_iconst C (v := 0) (by decide) (dk kX8_isDot 1 rfl) ?_
  refine g_aload_n C (i := 0) 0 rfl rfl (dk kX8_isDot 2 rfl) ?_
  obtain ⟨b1, eb1, h⟩ := bd_inv h
  obtain ⟨rb1, kb1⟩ := rf_inv eb1
  refine gR_6_0 C k0 (C.w wd_5_3) rb1 (dk kX8_isDot 3 rfl) ?_
  refine g_iconst C (v := 0) (by decide) (dk kX8_isDot 4 rfl) ?_
  obtain ⟨c2, h⟩ := gd_inv h
  refine g_iald C kb1 c2 (dk kX8_isDot 5 rfl) ?_
  refine g_iconst C (v := 1) (by decide) (dk kX8_isDot 6 rfl) ?_
  refine g_isub C (dk kX8_isDot 7 rfl) ?_
  obtain ⟨x4, eq3, h⟩ := bd_inv h
  refine g_callS C E.2 (rest := []) 3 (ct_X8_in  eq3) wd_5_45 mm_X8_in ⟨by decide, by decide, by decide⟩ rfl (by decide) rfl (Nat.le_of_ble_eq_true rfl) (by decide) (dk kX8_isDot 8 rfl) ?_
  obtain ⟨c5, h⟩ := gd_inv h
  have h9 := Option.some.inj h
  subst h9
  exact g_iret C E rfl (br0 _ c5) (Nat.le_refl 0) (Nat.le_refl 0) (dk kX8_isDot 9 rfl)
theorem ct_X8_isDot {l : Launch} {Z : ZZ} {μ : Mm} {a0 : Nat} {a1 : Int32} {r : Int32} (k0 : (zk Z a0).1 = 6) (h : f_X8_isDot (zk Z) μ a0 a1 = some r) : CtM l Z false yX8_isDot cX8_isDot 2 (some .boolean) 1 0 0 [.ref (za Z a0), .int a1] μ (some (.int r)) Z μ := ct_of rfl rfl (Nat.le_of_ble_eq_true rfl) (fun X C E => t_X8_isDot μ a0 a1 r k0 h C E)

def qX8_rent : List (Nat × Instr × Nat) := [(0, .aload_n 0, 1), (1, .aload_n 0, 1), (2, .iload_n 1, 1), (3, .invokevirtual 85, 3), (6, .ifCond .eq 19, 3), (9, .aload_n 0, 1), (10, .iload_n 2, 1), (11, .invokevirtual 72, 3), (14, .ifCond .eq 11, 3), (17, .aload_n 0, 1), (18, .iload_n 3, 1), (19, .invokevirtual 72, 3), (22, .ifCond .ne 7, 3), (25, .iconst 1, 1), (26, .goto 27, 3), (29, .iload_n 3, 1), (30, .iload_n 2, 1), (31, .if_icmp .ge 7, 3), (34, .iconst 2, 1), (35, .goto 18, 3), (38, .aload_n 0, 1), (39, .iload_n 1, 1), (40, .iload_n 2, 1), (41, .iload_n 3, 1), (42, .invokevirtual 88, 3), (45, .ifCond .eq 7, 3), (48, .iconst 3, 1), (49, .goto 4, 3), (52, .iconst 0, 1), (53, .invokevirtual 44, 3), (56, .ifCond .eq 5, 3), (59, .iconst 0, 1), (60, .ireturn, 1), (61, .aload_n 0, 1), (62, .invokevirtual 48, 3), (65, .aload_n 0, 1), (66, .getfield 7, 3), (69, .sipush 146, 3), (72, .bipush 6, 2), (74, .iload_n 1, 1), (75, .imul, 1), (76, .iadd, 1), (77, .iconst 0, 1), (78, .iadd, 1), (79, .iload_n 2, 1), (80, .iastore, 1), (81, .aload_n 0, 1), (82, .getfield 7, 3), (85, .sipush 146, 3), (88, .bipush 6, 2), (90, .iload_n 1, 1), (91, .imul, 1), (92, .iadd, 1), (93, .iconst 1, 1), (94, .iadd, 1), (95, .iload_n 3, 1), (96, .iastore, 1), (97, .aload_n 0, 1), (98, .invokevirtual 91, 3), (101, .ireturn, 1)]
theorem kX8_rent : ∀ q ∈ qX8_rent, decode cX8_rent q.1 = .ok q.2 := by decide +kernel
def f_X8_rent (K : Nat → Nat × Nat) (μ : Mm) (a0 : Nat) (a1 : Int32) (a2 : Int32) (a3 : Int32) : Option (Int32 × Mm) :=
  bd (f_X8_isCustomer K μ a0 a1) fun x2 => if x2 = 0 then (bd (f_X8_throwsAt K μ a0 1) fun q4 => lt1 q4.1 fun x6 => lt1 q4.2 fun μ5 => if x6 = 0 then (bd (f_X8_saves K μ5 a0) fun μ9 => bd (rf K μ9 a0 0 8) fun b10 => gd (inb ((146 + (6 * a1)) + 0) (K b10).2) <| lt1 (sI μ9 b10 (ix ((146 + (6 * a1)) + 0)) a2) fun μ12 => bd (rf K μ12 a0 0 8) fun b13 => gd (inb ((146 + (6 * a1)) + 1) (K b13).2) <| lt1 (sI μ12 b13 (ix ((146 + (6 * a1)) + 1)) a3) fun μ15 => bd (f_X8_rented K μ15 a0) fun x17 => some (x17, μ15)) else (some (0, μ5))) else (bd (f_X8_isDot K μ a0 a2) fun x19 => if x19 = 0 then (bd (f_X8_throwsAt K μ a0 1) fun q21 => lt1 q21.1 fun x23 => lt1 q21.2 fun μ22 => if x23 = 0 then (bd (f_X8_saves K μ22 a0) fun μ26 => bd (rf K μ26 a0 0 8) fun b27 => gd (inb ((146 + (6 * a1)) + 0) (K b27).2) <| lt1 (sI μ26 b27 (ix ((146 + (6 * a1)) + 0)) a2) fun μ29 => bd (rf K μ29 a0 0 8) fun b30 => gd (inb ((146 + (6 * a1)) + 1) (K b30).2) <| lt1 (sI μ29 b30 (ix ((146 + (6 * a1)) + 1)) a3) fun μ32 => bd (f_X8_rented K μ32 a0) fun x34 => some (x34, μ32)) else (some (0, μ22))) else (bd (f_X8_isDot K μ a0 a3) fun x36 => if x36 = 0 then (bd (f_X8_throwsAt K μ a0 1) fun q72 => lt1 q72.1 fun x74 => lt1 q72.2 fun μ73 => if x74 = 0 then (bd (f_X8_saves K μ73 a0) fun μ77 => bd (rf K μ77 a0 0 8) fun b78 => gd (inb ((146 + (6 * a1)) + 0) (K b78).2) <| lt1 (sI μ77 b78 (ix ((146 + (6 * a1)) + 0)) a2) fun μ80 => bd (rf K μ80 a0 0 8) fun b81 => gd (inb ((146 + (6 * a1)) + 1) (K b81).2) <| lt1 (sI μ80 b81 (ix ((146 + (6 * a1)) + 1)) a3) fun μ83 => bd (f_X8_rented K μ83 a0) fun x85 => some (x85, μ83)) else (some (0, μ73))) else (if a2 ≤ a3 then (bd (f_X8_isTaken K μ a0 a1 a2 a3) fun x40 => lt1 (α := Int32) (if x40 = 0 then 0 else 3) fun x41 => bd (f_X8_throwsAt K μ a0 x41) fun q43 => lt1 q43.1 fun x45 => lt1 q43.2 fun μ44 => if x45 = 0 then (bd (f_X8_saves K μ44 a0) fun μ48 => bd (rf K μ48 a0 0 8) fun b49 => gd (inb ((146 + (6 * a1)) + 0) (K b49).2) <| lt1 (sI μ48 b49 (ix ((146 + (6 * a1)) + 0)) a2) fun μ51 => bd (rf K μ51 a0 0 8) fun b52 => gd (inb ((146 + (6 * a1)) + 1) (K b52).2) <| lt1 (sI μ51 b52 (ix ((146 + (6 * a1)) + 1)) a3) fun μ54 => bd (f_X8_rented K μ54 a0) fun x56 => some (x56, μ54)) else (some (0, μ44))) else (bd (f_X8_throwsAt K μ a0 2) fun q58 => lt1 q58.1 fun x60 => lt1 q58.2 fun μ59 => if x60 = 0 then (bd (f_X8_saves K μ59 a0) fun μ63 => bd (rf K μ63 a0 0 8) fun b64 => gd (inb ((146 + (6 * a1)) + 0) (K b64).2) <| lt1 (sI μ63 b64 (ix ((146 + (6 * a1)) + 0)) a2) fun μ66 => bd (rf K μ66 a0 0 8) fun b67 => gd (inb ((146 + (6 * a1)) + 1) (K b67).2) <| lt1 (sI μ66 b67 (ix ((146 + (6 * a1)) + 1)) a3) fun μ69 => bd (f_X8_rented K μ69 a0) fun x71 => some (x71, μ69)) else (some (0, μ59))))))
set_option maxRecDepth 100000 in
set_option maxHeartbeats 4000000 in
theorem t_X8_rent {l : Launch} {Z : ZZ} {X : XX} (μ : Mm) (a0 : Nat) (a1 : Int32) (a2 : Int32) (a3 : Int32) (r : Int32) (μ' : Mm) (k0 : (zk Z a0).1 = 6) (h : f_X8_rent (zk Z) μ a0 a1 a2 a3 = some (r, μ')) (C : Cx l Z false X cX8_rent RX8 4 (some .int)) (E : Ex Z X 3 0 0 (some (.int r)) Z μ') : G Z X 4 0 0 0 [(0, .ref (za Z a0)), (1, .int a1), (2, .int a2), (3, .int a3)] [] μ := by
  unfold f_X8_rent at h
  refine g_aload_n C (i := 0) 0 rfl rfl (dk kX8_rent 0 rfl) ?_
  refine g_aload_n C (i := 0) 0 rfl rfl (dk kX8_rent 1 rfl) ?_
  refine g_iload_n C (i := 1) 1 rfl rfl (dk kX8_rent 2 rfl) ?_
  obtain ⟨x2, eq1, h⟩ := bd_inv h
  refine g_callV C E.2 (rest := [.ref (za Z a0)]) 1 (ct_X8_isCustomer k0 eq1) wd_5_116 mm_X8_isCustomer ⟨rfl, by decide, by decide, by decide⟩ rfl (by decide) k0 (by decide) rfl rfl (Nat.le_of_ble_eq_true rfl) (by decide) (dk kX8_rent 3 rfl) ?_
  refine g_if_eq C (tgt := 25) (dk kX8_rent 4 rfl) (by decide) (fun c3 => ?_) (fun c3 => ?_)
  · replace h := ite_t h c3
    refine g_iconst C (v := 1) (by decide) (dk kX8_rent 13 rfl) ?_
    refine g_goto C (tgt := 53) (dk kX8_rent 14 rfl) (by decide) ?_
    obtain ⟨q4, eq4, h⟩ := bd_inv h
    obtain ⟨x6, ex6, h⟩ := lt_inv h
    obtain ⟨μ5, eμ5, h⟩ := lt_inv h
    rw [show q4 = (x6, μ5) from by rw [ex6, eμ5]] at eq4
    refine g_callV C E.2 (rest := []) 1 (ct_X8_throwsAt k0 eq4) wd_5_48 mm_X8_throwsAt ⟨rfl, by decide, by decide, by decide⟩ rfl (by decide) k0 (by decide) rfl rfl (Nat.le_of_ble_eq_true rfl) (by decide) (dk kX8_rent 29 rfl) ?_
    refine g_if_eq C (tgt := 61) (dk kX8_rent 30 rfl) (by decide) (fun c7 => ?_) (fun c7 => ?_)
    · replace h := ite_t h c7
      refine g_aload_n C (i := 0) 0 rfl rfl (dk kX8_rent 33 rfl) ?_
      obtain ⟨μ9, eq8, h⟩ := bd_inv h
      refine g_callV C E.2 (rest := []) 0 (ct_X8_saves k0 eq8) wd_5_52 mm_X8_saves ⟨rfl, by decide, by decide, by decide⟩ rfl (by decide) k0 (by decide) rfl rfl (Nat.le_of_ble_eq_true rfl) (by decide) (dk kX8_rent 34 rfl) ?_
      refine g_aload_n C (i := 0) 0 rfl rfl (dk kX8_rent 35 rfl) ?_
      obtain ⟨b10, eb10, h⟩ := bd_inv h
      obtain ⟨rb10, kb10⟩ := rf_inv eb10
      refine gR_6_0 C k0 (C.w wd_5_3) rb10 (dk kX8_rent 36 rfl) ?_
      refine g_sipush C (v := 146) (by decide) (dk kX8_rent 37 rfl) ?_
      refine g_bipush C (v := 6) (by decide) (dk kX8_rent 38 rfl) ?_
      refine g_iload_n C (i := 1) 1 rfl rfl (dk kX8_rent 39 rfl) ?_
      refine g_imul C (dk kX8_rent 40 rfl) ?_
      refine g_iadd C (dk kX8_rent 41 rfl) ?_
      refine g_iconst C (v := 0) (by decide) (dk kX8_rent 42 rfl) ?_
      refine g_iadd C (dk kX8_rent 43 rfl) ?_
      refine g_iload_n C (i := 2) 2 rfl rfl (dk kX8_rent 44 rfl) ?_
      obtain ⟨c11, h⟩ := gd_inv h
      obtain ⟨μ12, eμ12, h⟩ := lt_inv h
      refine g_iast C kb10 c11 eμ12 (dk kX8_rent 45 rfl) ?_
      refine g_aload_n C (i := 0) 0 rfl rfl (dk kX8_rent 46 rfl) ?_
      obtain ⟨b13, eb13, h⟩ := bd_inv h
      obtain ⟨rb13, kb13⟩ := rf_inv eb13
      refine gR_6_0 C k0 (C.w wd_5_3) rb13 (dk kX8_rent 47 rfl) ?_
      refine g_sipush C (v := 146) (by decide) (dk kX8_rent 48 rfl) ?_
      refine g_bipush C (v := 6) (by decide) (dk kX8_rent 49 rfl) ?_
      refine g_iload_n C (i := 1) 1 rfl rfl (dk kX8_rent 50 rfl) ?_
      refine g_imul C (dk kX8_rent 51 rfl) ?_
      refine g_iadd C (dk kX8_rent 52 rfl) ?_
      refine g_iconst C (v := 1) (by decide) (dk kX8_rent 53 rfl) ?_
      refine g_iadd C (dk kX8_rent 54 rfl) ?_
      refine g_iload_n C (i := 3) 3 rfl rfl (dk kX8_rent 55 rfl) ?_
      obtain ⟨c14, h⟩ := gd_inv h
      obtain ⟨μ15, eμ15, h⟩ := lt_inv h
      refine g_iast C kb13 c14 eμ15 (dk kX8_rent 56 rfl) ?_
      refine g_aload_n C (i := 0) 0 rfl rfl (dk kX8_rent 57 rfl) ?_
      obtain ⟨x17, eq16, h⟩ := bd_inv h
      refine g_callV C E.2 (rest := []) 0 (ct_X8_rented k0 eq16) wd_5_132 mm_X8_rented ⟨rfl, by decide, by decide, by decide⟩ rfl (by decide) k0 (by decide) rfl rfl (Nat.le_of_ble_eq_true rfl) (by decide) (dk kX8_rent 58 rfl) ?_
      obtain ⟨h8, h9⟩ := Prod.mk.inj (Option.some.inj h)
      subst h8
      subst h9
      exact g_iret C E rfl rfl (Nat.le_refl 0) (Nat.le_refl 0) (dk kX8_rent 59 rfl)
    · replace h := ite_f h c7
      refine g_iconst C (v := 0) (by decide) (dk kX8_rent 31 rfl) ?_
      obtain ⟨h8, h9⟩ := Prod.mk.inj (Option.some.inj h)
      subst h8
      subst h9
      exact g_iret C E rfl rfl (Nat.le_refl 0) (Nat.le_refl 0) (dk kX8_rent 32 rfl)
  · replace h := ite_f h c3
    refine g_aload_n C (i := 0) 0 rfl rfl (dk kX8_rent 5 rfl) ?_
    refine g_iload_n C (i := 2) 2 rfl rfl (dk kX8_rent 6 rfl) ?_
    obtain ⟨x19, eq18, h⟩ := bd_inv h
    refine g_callV C E.2 (rest := [.ref (za Z a0)]) 1 (ct_X8_isDot k0 eq18) wd_5_97 mm_X8_isDot ⟨rfl, by decide, by decide, by decide⟩ rfl (by decide) k0 (by decide) rfl rfl (Nat.le_of_ble_eq_true rfl) (by decide) (dk kX8_rent 7 rfl) ?_
    refine g_if_eq C (tgt := 25) (dk kX8_rent 8 rfl) (by decide) (fun c20 => ?_) (fun c20 => ?_)
    · replace h := ite_t h c20
      refine g_iconst C (v := 1) (by decide) (dk kX8_rent 13 rfl) ?_
      refine g_goto C (tgt := 53) (dk kX8_rent 14 rfl) (by decide) ?_
      obtain ⟨q21, eq21, h⟩ := bd_inv h
      obtain ⟨x23, ex23, h⟩ := lt_inv h
      obtain ⟨μ22, eμ22, h⟩ := lt_inv h
      rw [show q21 = (x23, μ22) from by rw [ex23, eμ22]] at eq21
      refine g_callV C E.2 (rest := []) 1 (ct_X8_throwsAt k0 eq21) wd_5_48 mm_X8_throwsAt ⟨rfl, by decide, by decide, by decide⟩ rfl (by decide) k0 (by decide) rfl rfl (Nat.le_of_ble_eq_true rfl) (by decide) (dk kX8_rent 29 rfl) ?_
      refine g_if_eq C (tgt := 61) (dk kX8_rent 30 rfl) (by decide) (fun c24 => ?_) (fun c24 => ?_)
      · replace h := ite_t h c24
        refine g_aload_n C (i := 0) 0 rfl rfl (dk kX8_rent 33 rfl) ?_
        obtain ⟨μ26, eq25, h⟩ := bd_inv h
        refine g_callV C E.2 (rest := []) 0 (ct_X8_saves k0 eq25) wd_5_52 mm_X8_saves ⟨rfl, by decide, by decide, by decide⟩ rfl (by decide) k0 (by decide) rfl rfl (Nat.le_of_ble_eq_true rfl) (by decide) (dk kX8_rent 34 rfl) ?_
        refine g_aload_n C (i := 0) 0 rfl rfl (dk kX8_rent 35 rfl) ?_
        obtain ⟨b27, eb27, h⟩ := bd_inv h
        obtain ⟨rb27, kb27⟩ := rf_inv eb27
        refine gR_6_0 C k0 (C.w wd_5_3) rb27 (dk kX8_rent 36 rfl) ?_
        refine g_sipush C (v := 146) (by decide) (dk kX8_rent 37 rfl) ?_
        refine g_bipush C (v := 6) (by decide) (dk kX8_rent 38 rfl) ?_
        refine g_iload_n C (i := 1) 1 rfl rfl (dk kX8_rent 39 rfl) ?_
        refine g_imul C (dk kX8_rent 40 rfl) ?_
        refine g_iadd C (dk kX8_rent 41 rfl) ?_
        refine g_iconst C (v := 0) (by decide) (dk kX8_rent 42 rfl) ?_
        refine g_iadd C (dk kX8_rent 43 rfl) ?_
        refine g_iload_n C (i := 2) 2 rfl rfl (dk kX8_rent 44 rfl) ?_
        obtain ⟨c28, h⟩ := gd_inv h
        obtain ⟨μ29, eμ29, h⟩ := lt_inv h
        refine g_iast C kb27 c28 eμ29 (dk kX8_rent 45 rfl) ?_
        refine g_aload_n C (i := 0) 0 rfl rfl (dk kX8_rent 46 rfl) ?_
        obtain ⟨b30, eb30, h⟩ := bd_inv h
        obtain ⟨rb30, kb30⟩ := rf_inv eb30
        refine gR_6_0 C k0 (C.w wd_5_3) rb30 (dk kX8_rent 47 rfl) ?_
        refine g_sipush C (v := 146) (by decide) (dk kX8_rent 48 rfl) ?_
        refine g_bipush C (v := 6) (by decide) (dk kX8_rent 49 rfl) ?_
        refine g_iload_n C (i := 1) 1 rfl rfl (dk kX8_rent 50 rfl) ?_
        refine g_imul C (dk kX8_rent 51 rfl) ?_
        refine g_iadd C (dk kX8_rent 52 rfl) ?_
        refine g_iconst C (v := 1) (by decide) (dk kX8_rent 53 rfl) ?_
        refine g_iadd C (dk kX8_rent 54 rfl) ?_
        refine g_iload_n C (i := 3) 3 rfl rfl (dk kX8_rent 55 rfl) ?_
        obtain ⟨c31, h⟩ := gd_inv h
        obtain ⟨μ32, eμ32, h⟩ := lt_inv h
        refine g_iast C kb30 c31 eμ32 (dk kX8_rent 56 rfl) ?_
        refine g_aload_n C (i := 0) 0 rfl rfl (dk kX8_rent 57 rfl) ?_
        obtain ⟨x34, eq33, h⟩ := bd_inv h
        refine g_callV C E.2 (rest := []) 0 (ct_X8_rented k0 eq33) wd_5_132 mm_X8_rented ⟨rfl, by decide, by decide, by decide⟩ rfl (by decide) k0 (by decide) rfl rfl (Nat.le_of_ble_eq_true rfl) (by decide) (dk kX8_rent 58 rfl) ?_
        obtain ⟨h8, h9⟩ := Prod.mk.inj (Option.some.inj h)
        subst h8
        subst h9
        exact g_iret C E rfl rfl (Nat.le_refl 0) (Nat.le_refl 0) (dk kX8_rent 59 rfl)
      · replace h := ite_f h c24
        refine g_iconst C (v := 0) (by decide) (dk kX8_rent 31 rfl) ?_
        obtain ⟨h8, h9⟩ := Prod.mk.inj (Option.some.inj h)
        subst h8
        subst h9
        exact g_iret C E rfl rfl (Nat.le_refl 0) (Nat.le_refl 0) (dk kX8_rent 32 rfl)
    · replace h := ite_f h c20
      refine g_aload_n C (i := 0) 0 rfl rfl (dk kX8_rent 9 rfl) ?_
      refine g_iload_n C (i := 3) 3 rfl rfl (dk kX8_rent 10 rfl) ?_
      obtain ⟨x36, eq35, h⟩ := bd_inv h
      refine g_callV C E.2 (rest := [.ref (za Z a0)]) 1 (ct_X8_isDot k0 eq35) wd_5_97 mm_X8_isDot ⟨rfl, by decide, by decide, by decide⟩ rfl (by decide) k0 (by decide) rfl rfl (Nat.le_of_ble_eq_true rfl) (by decide) (dk kX8_rent 11 rfl) ?_
      refine g_if_ne C (tgt := 29) (dk kX8_rent 12 rfl) (by decide) (fun c37 => ?_) (fun c37 => ?_)
      · replace h := ite_f h c37
        refine g_iload_n C (i := 3) 3 rfl rfl (dk kX8_rent 15 rfl) ?_
        refine g_iload_n C (i := 2) 2 rfl rfl (dk kX8_rent 16 rfl) ?_
        refine g_icmp_ge C (tgt := 38) (dk kX8_rent 17 rfl) (by decide) (fun c38 => ?_) (fun c38 => ?_)
        · replace h := ite_t h c38
          refine g_aload_n C (i := 0) 0 rfl rfl (dk kX8_rent 20 rfl) ?_
          refine g_iload_n C (i := 1) 1 rfl rfl (dk kX8_rent 21 rfl) ?_
          refine g_iload_n C (i := 2) 2 rfl rfl (dk kX8_rent 22 rfl) ?_
          refine g_iload_n C (i := 3) 3 rfl rfl (dk kX8_rent 23 rfl) ?_
          obtain ⟨x40, eq39, h⟩ := bd_inv h
          refine g_callV C E.2 (rest := [.ref (za Z a0)]) 3 (ct_X8_isTaken k0 eq39) wd_5_120 mm_X8_isTaken ⟨rfl, by decide, by decide, by decide⟩ rfl (by decide) k0 (by decide) rfl rfl (Nat.le_of_ble_eq_true rfl) (by decide) (dk kX8_rent 24 rfl) ?_
          obtain ⟨x41, ex41, h⟩ := lt_inv h
          have kj42 : G Z X 4 0 0 53 [(0, .ref (za Z a0)), (1, .int a1), (2, .int a2), (3, .int a3)] [.int x41, .ref (za Z a0)] μ := by
            obtain ⟨q43, eq43, h⟩ := bd_inv h
            obtain ⟨x45, ex45, h⟩ := lt_inv h
            obtain ⟨μ44, eμ44, h⟩ := lt_inv h
            rw [show q43 = (x45, μ44) from by rw [ex45, eμ44]] at eq43
            refine g_callV C E.2 (rest := []) 1 (ct_X8_throwsAt k0 eq43) wd_5_48 mm_X8_throwsAt ⟨rfl, by decide, by decide, by decide⟩ rfl (by decide) k0 (by decide) rfl rfl (Nat.le_of_ble_eq_true rfl) (by decide) (dk kX8_rent 29 rfl) ?_
            refine g_if_eq C (tgt := 61) (dk kX8_rent 30 rfl) (by decide) (fun c46 => ?_) (fun c46 => ?_)
            · replace h := ite_t h c46
              refine g_aload_n C (i := 0) 0 rfl rfl (dk kX8_rent 33 rfl) ?_
              obtain ⟨μ48, eq47, h⟩ := bd_inv h
              refine g_callV C E.2 (rest := []) 0 (ct_X8_saves k0 eq47) wd_5_52 mm_X8_saves ⟨rfl, by decide, by decide, by decide⟩ rfl (by decide) k0 (by decide) rfl rfl (Nat.le_of_ble_eq_true rfl) (by decide) (dk kX8_rent 34 rfl) ?_
              refine g_aload_n C (i := 0) 0 rfl rfl (dk kX8_rent 35 rfl) ?_
              obtain ⟨b49, eb49, h⟩ := bd_inv h
              obtain ⟨rb49, kb49⟩ := rf_inv eb49
              refine gR_6_0 C k0 (C.w wd_5_3) rb49 (dk kX8_rent 36 rfl) ?_
              refine g_sipush C (v := 146) (by decide) (dk kX8_rent 37 rfl) ?_
              refine g_bipush C (v := 6) (by decide) (dk kX8_rent 38 rfl) ?_
              refine g_iload_n C (i := 1) 1 rfl rfl (dk kX8_rent 39 rfl) ?_
              refine g_imul C (dk kX8_rent 40 rfl) ?_
              refine g_iadd C (dk kX8_rent 41 rfl) ?_
              refine g_iconst C (v := 0) (by decide) (dk kX8_rent 42 rfl) ?_
              refine g_iadd C (dk kX8_rent 43 rfl) ?_
              refine g_iload_n C (i := 2) 2 rfl rfl (dk kX8_rent 44 rfl) ?_
              obtain ⟨c50, h⟩ := gd_inv h
              obtain ⟨μ51, eμ51, h⟩ := lt_inv h
              refine g_iast C kb49 c50 eμ51 (dk kX8_rent 45 rfl) ?_
              refine g_aload_n C (i := 0) 0 rfl rfl (dk kX8_rent 46 rfl) ?_
              obtain ⟨b52, eb52, h⟩ := bd_inv h
              obtain ⟨rb52, kb52⟩ := rf_inv eb52
              refine gR_6_0 C k0 (C.w wd_5_3) rb52 (dk kX8_rent 47 rfl) ?_
              refine g_sipush C (v := 146) (by decide) (dk kX8_rent 48 rfl) ?_
              refine g_bipush C (v := 6) (by decide) (dk kX8_rent 49 rfl) ?_
              refine g_iload_n C (i := 1) 1 rfl rfl (dk kX8_rent 50 rfl) ?_
              refine g_imul C (dk kX8_rent 51 rfl) ?_
              refine g_iadd C (dk kX8_rent 52 rfl) ?_
              refine g_iconst C (v := 1) (by decide) (dk kX8_rent 53 rfl) ?_
              refine g_iadd C (dk kX8_rent 54 rfl) ?_
              refine g_iload_n C (i := 3) 3 rfl rfl (dk kX8_rent 55 rfl) ?_
              obtain ⟨c53, h⟩ := gd_inv h
              obtain ⟨μ54, eμ54, h⟩ := lt_inv h
              refine g_iast C kb52 c53 eμ54 (dk kX8_rent 56 rfl) ?_
              refine g_aload_n C (i := 0) 0 rfl rfl (dk kX8_rent 57 rfl) ?_
              obtain ⟨x56, eq55, h⟩ := bd_inv h
              refine g_callV C E.2 (rest := []) 0 (ct_X8_rented k0 eq55) wd_5_132 mm_X8_rented ⟨rfl, by decide, by decide, by decide⟩ rfl (by decide) k0 (by decide) rfl rfl (Nat.le_of_ble_eq_true rfl) (by decide) (dk kX8_rent 58 rfl) ?_
              obtain ⟨h8, h9⟩ := Prod.mk.inj (Option.some.inj h)
              subst h8
              subst h9
              exact g_iret C E rfl rfl (Nat.le_refl 0) (Nat.le_refl 0) (dk kX8_rent 59 rfl)
            · replace h := ite_f h c46
              refine g_iconst C (v := 0) (by decide) (dk kX8_rent 31 rfl) ?_
              obtain ⟨h8, h9⟩ := Prod.mk.inj (Option.some.inj h)
              subst h8
              subst h9
              exact g_iret C E rfl rfl (Nat.le_refl 0) (Nat.le_refl 0) (dk kX8_rent 32 rfl)
          clear h
          refine g_if_eq C (tgt := 52) (dk kX8_rent 25 rfl) (by decide) (fun c57 => ?_) (fun c57 => ?_)
          · refine g_iconst C (v := 0) (by decide) (dk kX8_rent 28 rfl) ?_
            exact g_nmi (by rw [ex41, if_pos c57]) kj42
          · refine g_iconst C (v := 3) (by decide) (dk kX8_rent 26 rfl) ?_
            refine g_goto C (tgt := 53) (dk kX8_rent 27 rfl) (by decide) ?_
            exact g_nmi (by rw [ex41, if_neg c57]) kj42
        · replace h := ite_f h c38
          refine g_iconst C (v := 2) (by decide) (dk kX8_rent 18 rfl) ?_
          refine g_goto C (tgt := 53) (dk kX8_rent 19 rfl) (by decide) ?_
          obtain ⟨q58, eq58, h⟩ := bd_inv h
          obtain ⟨x60, ex60, h⟩ := lt_inv h
          obtain ⟨μ59, eμ59, h⟩ := lt_inv h
          rw [show q58 = (x60, μ59) from by rw [ex60, eμ59]] at eq58
          refine g_callV C E.2 (rest := []) 1 (ct_X8_throwsAt k0 eq58) wd_5_48 mm_X8_throwsAt ⟨rfl, by decide, by decide, by decide⟩ rfl (by decide) k0 (by decide) rfl rfl (Nat.le_of_ble_eq_true rfl) (by decide) (dk kX8_rent 29 rfl) ?_
          refine g_if_eq C (tgt := 61) (dk kX8_rent 30 rfl) (by decide) (fun c61 => ?_) (fun c61 => ?_)
          · replace h := ite_t h c61
            refine g_aload_n C (i := 0) 0 rfl rfl (dk kX8_rent 33 rfl) ?_
            obtain ⟨μ63, eq62, h⟩ := bd_inv h
            refine g_callV C E.2 (rest := []) 0 (ct_X8_saves k0 eq62) wd_5_52 mm_X8_saves ⟨rfl, by decide, by decide, by decide⟩ rfl (by decide) k0 (by decide) rfl rfl (Nat.le_of_ble_eq_true rfl) (by decide) (dk kX8_rent 34 rfl) ?_
            refine g_aload_n C (i := 0) 0 rfl rfl (dk kX8_rent 35 rfl) ?_
            obtain ⟨b64, eb64, h⟩ := bd_inv h
            obtain ⟨rb64, kb64⟩ := rf_inv eb64
            refine gR_6_0 C k0 (C.w wd_5_3) rb64 (dk kX8_rent 36 rfl) ?_
            refine g_sipush C (v := 146) (by decide) (dk kX8_rent 37 rfl) ?_
            refine g_bipush C (v := 6) (by decide) (dk kX8_rent 38 rfl) ?_
            refine g_iload_n C (i := 1) 1 rfl rfl (dk kX8_rent 39 rfl) ?_
            refine g_imul C (dk kX8_rent 40 rfl) ?_
            refine g_iadd C (dk kX8_rent 41 rfl) ?_
            refine g_iconst C (v := 0) (by decide) (dk kX8_rent 42 rfl) ?_
            refine g_iadd C (dk kX8_rent 43 rfl) ?_
            refine g_iload_n C (i := 2) 2 rfl rfl (dk kX8_rent 44 rfl) ?_
            obtain ⟨c65, h⟩ := gd_inv h
            obtain ⟨μ66, eμ66, h⟩ := lt_inv h
            refine g_iast C kb64 c65 eμ66 (dk kX8_rent 45 rfl) ?_
            refine g_aload_n C (i := 0) 0 rfl rfl (dk kX8_rent 46 rfl) ?_
            obtain ⟨b67, eb67, h⟩ := bd_inv h
            obtain ⟨rb67, kb67⟩ := rf_inv eb67
            refine gR_6_0 C k0 (C.w wd_5_3) rb67 (dk kX8_rent 47 rfl) ?_
            refine g_sipush C (v := 146) (by decide) (dk kX8_rent 48 rfl) ?_
            refine g_bipush C (v := 6) (by decide) (dk kX8_rent 49 rfl) ?_
            refine g_iload_n C (i := 1) 1 rfl rfl (dk kX8_rent 50 rfl) ?_
            refine g_imul C (dk kX8_rent 51 rfl) ?_
            refine g_iadd C (dk kX8_rent 52 rfl) ?_
            refine g_iconst C (v := 1) (by decide) (dk kX8_rent 53 rfl) ?_
            refine g_iadd C (dk kX8_rent 54 rfl) ?_
            refine g_iload_n C (i := 3) 3 rfl rfl (dk kX8_rent 55 rfl) ?_
            obtain ⟨c68, h⟩ := gd_inv h
            obtain ⟨μ69, eμ69, h⟩ := lt_inv h
            refine g_iast C kb67 c68 eμ69 (dk kX8_rent 56 rfl) ?_
            refine g_aload_n C (i := 0) 0 rfl rfl (dk kX8_rent 57 rfl) ?_
            obtain ⟨x71, eq70, h⟩ := bd_inv h
            refine g_callV C E.2 (rest := []) 0 (ct_X8_rented k0 eq70) wd_5_132 mm_X8_rented ⟨rfl, by decide, by decide, by decide⟩ rfl (by decide) k0 (by decide) rfl rfl (Nat.le_of_ble_eq_true rfl) (by decide) (dk kX8_rent 58 rfl) ?_
            obtain ⟨h8, h9⟩ := Prod.mk.inj (Option.some.inj h)
            subst h8
            subst h9
            exact g_iret C E rfl rfl (Nat.le_refl 0) (Nat.le_refl 0) (dk kX8_rent 59 rfl)
          · replace h := ite_f h c61
            refine g_iconst C (v := 0) (by decide) (dk kX8_rent 31 rfl) ?_
            obtain ⟨h8, h9⟩ := Prod.mk.inj (Option.some.inj h)
            subst h8
            subst h9
            exact g_iret C E rfl rfl (Nat.le_refl 0) (Nat.le_refl 0) (dk kX8_rent 32 rfl)
      · replace h := ite_t h c37
        refine g_iconst C (v := 1) (by decide) (dk kX8_rent 13 rfl) ?_
        refine g_goto C (tgt := 53) (dk kX8_rent 14 rfl) (by decide) ?_
        obtain ⟨q72, eq72, h⟩ := bd_inv h
        obtain ⟨x74, ex74, h⟩ := lt_inv h
        obtain ⟨μ73, eμ73, h⟩ := lt_inv h
        rw [show q72 = (x74, μ73) from by rw [ex74, eμ73]] at eq72
        refine g_callV C E.2 (rest := []) 1 (ct_X8_throwsAt k0 eq72) wd_5_48 mm_X8_throwsAt ⟨rfl, by decide, by decide, by decide⟩ rfl (by decide) k0 (by decide) rfl rfl (Nat.le_of_ble_eq_true rfl) (by decide) (dk kX8_rent 29 rfl) ?_
        refine g_if_eq C (tgt := 61) (dk kX8_rent 30 rfl) (by decide) (fun c75 => ?_) (fun c75 => ?_)
        · replace h := ite_t h c75
          refine g_aload_n C (i := 0) 0 rfl rfl (dk kX8_rent 33 rfl) ?_
          obtain ⟨μ77, eq76, h⟩ := bd_inv h
          refine g_callV C E.2 (rest := []) 0 (ct_X8_saves k0 eq76) wd_5_52 mm_X8_saves ⟨rfl, by decide, by decide, by decide⟩ rfl (by decide) k0 (by decide) rfl rfl (Nat.le_of_ble_eq_true rfl) (by decide) (dk kX8_rent 34 rfl) ?_
          refine g_aload_n C (i := 0) 0 rfl rfl (dk kX8_rent 35 rfl) ?_
          obtain ⟨b78, eb78, h⟩ := bd_inv h
          obtain ⟨rb78, kb78⟩ := rf_inv eb78
          refine gR_6_0 C k0 (C.w wd_5_3) rb78 (dk kX8_rent 36 rfl) ?_
          refine g_sipush C (v := 146) (by decide) (dk kX8_rent 37 rfl) ?_
          refine g_bipush C (v := 6) (by decide) (dk kX8_rent 38 rfl) ?_
          refine g_iload_n C (i := 1) 1 rfl rfl (dk kX8_rent 39 rfl) ?_
          refine g_imul C (dk kX8_rent 40 rfl) ?_
          refine g_iadd C (dk kX8_rent 41 rfl) ?_
          refine g_iconst C (v := 0) (by decide) (dk kX8_rent 42 rfl) ?_
          refine g_iadd C (dk kX8_rent 43 rfl) ?_
          refine g_iload_n C (i := 2) 2 rfl rfl (dk kX8_rent 44 rfl) ?_
          obtain ⟨c79, h⟩ := gd_inv h
          obtain ⟨μ80, eμ80, h⟩ := lt_inv h
          refine g_iast C kb78 c79 eμ80 (dk kX8_rent 45 rfl) ?_
          refine g_aload_n C (i := 0) 0 rfl rfl (dk kX8_rent 46 rfl) ?_
          obtain ⟨b81, eb81, h⟩ := bd_inv h
          obtain ⟨rb81, kb81⟩ := rf_inv eb81
          refine gR_6_0 C k0 (C.w wd_5_3) rb81 (dk kX8_rent 47 rfl) ?_
          refine g_sipush C (v := 146) (by decide) (dk kX8_rent 48 rfl) ?_
          refine g_bipush C (v := 6) (by decide) (dk kX8_rent 49 rfl) ?_
          refine g_iload_n C (i := 1) 1 rfl rfl (dk kX8_rent 50 rfl) ?_
          refine g_imul C (dk kX8_rent 51 rfl) ?_
          refine g_iadd C (dk kX8_rent 52 rfl) ?_
          refine g_iconst C (v := 1) (by decide) (dk kX8_rent 53 rfl) ?_
          refine g_iadd C (dk kX8_rent 54 rfl) ?_
          refine g_iload_n C (i := 3) 3 rfl rfl (dk kX8_rent 55 rfl) ?_
          obtain ⟨c82, h⟩ := gd_inv h
          obtain ⟨μ83, eμ83, h⟩ := lt_inv h
          refine g_iast C kb81 c82 eμ83 (dk kX8_rent 56 rfl) ?_
          refine g_aload_n C (i := 0) 0 rfl rfl (dk kX8_rent 57 rfl) ?_
          obtain ⟨x85, eq84, h⟩ := bd_inv h
          refine g_callV C E.2 (rest := []) 0 (ct_X8_rented k0 eq84) wd_5_132 mm_X8_rented ⟨rfl, by decide, by decide, by decide⟩ rfl (by decide) k0 (by decide) rfl rfl (Nat.le_of_ble_eq_true rfl) (by decide) (dk kX8_rent 58 rfl) ?_
          obtain ⟨h8, h9⟩ := Prod.mk.inj (Option.some.inj h)
          subst h8
          subst h9
          exact g_iret C E rfl rfl (Nat.le_refl 0) (Nat.le_refl 0) (dk kX8_rent 59 rfl)
        · replace h := ite_f h c75
          refine g_iconst C (v := 0) (by decide) (dk kX8_rent 31 rfl) ?_
          obtain ⟨h8, h9⟩ := Prod.mk.inj (Option.some.inj h)
          subst h8
          subst h9
          exact g_iret C E rfl rfl (Nat.le_refl 0) (Nat.le_refl 0) (dk kX8_rent 32 rfl)
theorem ct_X8_rent {l : Launch} {Z : ZZ} {μ : Mm} {a0 : Nat} {a1 : Int32} {a2 : Int32} {a3 : Int32} {r : Int32} {μ' : Mm} (k0 : (zk Z a0).1 = 6) (h : f_X8_rent (zk Z) μ a0 a1 a2 a3 = some (r, μ')) : CtM l Z false yX8_rent cX8_rent 4 (some .int) 3 0 0 [.ref (za Z a0), .int a1, .int a2, .int a3] μ (some (.int r)) Z μ' := ct_of rfl rfl (Nat.le_of_ble_eq_true rfl) (fun X C E => t_X8_rent μ a0 a1 a2 a3 r μ' k0 h C E)

def qX8_prints : List (Nat × Instr × Nat) := [(0, .aload_n 0, 1), (1, .iload_n 1, 1), (2, .iload_n 2, 1), (3, .iload_n 3, 1), (4, .invokevirtual 122, 3), (7, .istore 4, 2), (9, .aload_n 0, 1), (10, .aload_n 0, 1), (11, .getfield 7, 3), (14, .iload_n 2, 1), (15, .iload_n 3, 1), (16, .invokevirtual 112, 3), (19, .istore 5, 2), (21, .iload 5, 2), (23, .aload_n 0, 1), (24, .getfield 7, 3), (27, .bipush 6, 2), (29, .iaload, 1), (30, .if_icmp .le 7, 3), (33, .iconst 1, 1), (34, .goto 4, 3), (37, .iconst 0, 1), (38, .istore 6, 2), (40, .sipush 146, 3), (43, .bipush 6, 2), (45, .iload_n 1, 1), (46, .imul, 1), (47, .iadd, 1), (48, .istore 7, 2), (50, .aload_n 0, 1), (51, .getfield 7, 3), (54, .iload 7, 2), (56, .iconst 2, 1), (57, .iadd, 1), (58, .dup2, 1), (59, .iaload, 1), (60, .iload 4, 2), (62, .iadd, 1), (63, .iastore, 1), (64, .aload_n 0, 1), (65, .getfield 7, 3), (68, .iload 7, 2), (70, .iconst 3, 1), (71, .iadd, 1), (72, .dup2, 1), (73, .iaload, 1), (74, .iload 6, 2), (76, .iload 4, 2), (78, .imul, 1), (79, .iadd, 1), (80, .iastore, 1), (81, .aload_n 0, 1), (82, .getfield 7, 3), (85, .iload 7, 2), (87, .iconst 4, 1), (88, .iadd, 1), (89, .dup2, 1), (90, .iaload, 1), (91, .iconst 1, 1), (92, .iadd, 1), (93, .iastore, 1), (94, .aload_n 0, 1), (95, .getfield 7, 3), (98, .iload 7, 2), (100, .iconst 5, 1), (101, .iadd, 1), (102, .dup2, 1), (103, .iaload, 1), (104, .iload 6, 2), (106, .iadd, 1), (107, .iastore, 1), (108, .aload_n 0, 1), (109, .getfield 7, 3), (112, .bipush 86, 2), (114, .bipush 10, 2), (116, .iload_n 2, 1), (117, .imul, 1), (118, .iadd, 1), (119, .bipush 8, 2), (121, .iadd, 1), (122, .dup2, 1), (123, .iaload, 1), (124, .iconst 1, 1), (125, .iadd, 1), (126, .iastore, 1), (127, .aload_n 0, 1), (128, .getfield 7, 3), (131, .bipush 86, 2), (133, .bipush 10, 2), (135, .iload_n 2, 1), (136, .imul, 1), (137, .iadd, 1), (138, .bipush 9, 2), (140, .iadd, 1), (141, .dup2, 1), (142, .iaload, 1), (143, .iload 6, 2), (145, .iadd, 1), (146, .iastore, 1), (147, .aload_n 0, 1), (148, .getfield 7, 3), (151, .bipush 11, 2), (153, .dup2, 1), (154, .iaload, 1), (155, .iconst 1, 1), (156, .iadd, 1), (157, .iastore, 1), (158, .aload_n 0, 1), (159, .getfield 7, 3), (162, .bipush 12, 2), (164, .dup2, 1), (165, .iaload, 1), (166, .iload 6, 2), (168, .iadd, 1), (169, .iastore, 1), (170, .iload 5, 2), (172, .ireturn, 1)]
theorem kX8_prints : ∀ q ∈ qX8_prints, decode cX8_prints q.1 = .ok q.2 := by decide +kernel
def f_X8_prints (K : Nat → Nat × Nat) (μ : Mm) (a0 : Nat) (a1 : Int32) (a2 : Int32) (a3 : Int32) : Option (Int32 × Mm) :=
  bd (f_X8_priceOf K μ a0 a1 a2 a3) fun x2 => bd (rf K μ a0 0 8) fun b3 => bd (f_X8_plays K μ a0 b3 a2 a3) fun q4 => lt1 q4.1 fun x6 => lt1 q4.2 fun μ5 => bd (rf K μ5 a0 0 8) fun b7 => gd (inb 6 (K b7).2) <| lt1 (α := Int32) (if x6 ≤ (μ5.1 b7 (ix 6)) then 0 else 1) fun x9 => lt1 (α := Int32) (146 + (6 * a1)) fun x11 => bd (rf K μ5 a0 0 8) fun b12 => gd (inb (x11 + 2) (K b12).2) <| gd (inb (x11 + 2) (K b12).2) <| lt1 (sI μ5 b12 (ix (x11 + 2)) ((μ5.1 b12 (ix (x11 + 2))) + x2)) fun μ15 => bd (rf K μ15 a0 0 8) fun b16 => gd (inb (x11 + 3) (K b16).2) <| gd (inb (x11 + 3) (K b16).2) <| lt1 (sI μ15 b16 (ix (x11 + 3)) ((μ15.1 b16 (ix (x11 + 3))) + (x9 * x2))) fun μ19 => bd (rf K μ19 a0 0 8) fun b20 => gd (inb (x11 + 4) (K b20).2) <| gd (inb (x11 + 4) (K b20).2) <| lt1 (sI μ19 b20 (ix (x11 + 4)) ((μ19.1 b20 (ix (x11 + 4))) + 1)) fun μ23 => bd (rf K μ23 a0 0 8) fun b24 => gd (inb (x11 + 5) (K b24).2) <| gd (inb (x11 + 5) (K b24).2) <| lt1 (sI μ23 b24 (ix (x11 + 5)) ((μ23.1 b24 (ix (x11 + 5))) + x9)) fun μ27 => bd (rf K μ27 a0 0 8) fun b28 => gd (inb ((86 + (10 * a2)) + 8) (K b28).2) <| gd (inb ((86 + (10 * a2)) + 8) (K b28).2) <| lt1 (sI μ27 b28 (ix ((86 + (10 * a2)) + 8)) ((μ27.1 b28 (ix ((86 + (10 * a2)) + 8))) + 1)) fun μ31 => bd (rf K μ31 a0 0 8) fun b32 => gd (inb ((86 + (10 * a2)) + 9) (K b32).2) <| gd (inb ((86 + (10 * a2)) + 9) (K b32).2) <| lt1 (sI μ31 b32 (ix ((86 + (10 * a2)) + 9)) ((μ31.1 b32 (ix ((86 + (10 * a2)) + 9))) + x9)) fun μ35 => bd (rf K μ35 a0 0 8) fun b36 => gd (inb 11 (K b36).2) <| gd (inb 11 (K b36).2) <| lt1 (sI μ35 b36 (ix 11) ((μ35.1 b36 (ix 11)) + 1)) fun μ39 => bd (rf K μ39 a0 0 8) fun b40 => gd (inb 12 (K b40).2) <| gd (inb 12 (K b40).2) <| lt1 (sI μ39 b40 (ix 12) ((μ39.1 b40 (ix 12)) + x9)) fun μ43 => some (x6, μ43)
set_option maxRecDepth 100000 in
set_option maxHeartbeats 4000000 in
theorem t_X8_prints {l : Launch} {Z : ZZ} {X : XX} (μ : Mm) (a0 : Nat) (a1 : Int32) (a2 : Int32) (a3 : Int32) (r : Int32) (μ' : Mm) (k0 : (zk Z a0).1 = 6) (h : f_X8_prints (zk Z) μ a0 a1 a2 a3 = some (r, μ')) (C : Cx l Z false X cX8_prints RX8 8 (some .int)) (E : Ex Z X 3 0 0 (some (.int r)) Z μ') : G Z X 8 0 0 0 [(0, .ref (za Z a0)), (1, .int a1), (2, .int a2), (3, .int a3)] [] μ := by
  unfold f_X8_prints at h
  refine g_aload_n C (i := 0) 0 rfl rfl (dk kX8_prints 0 rfl) ?_
  refine g_iload_n C (i := 1) 1 rfl rfl (dk kX8_prints 1 rfl) ?_
  refine g_iload_n C (i := 2) 2 rfl rfl (dk kX8_prints 2 rfl) ?_
  refine g_iload_n C (i := 3) 3 rfl rfl (dk kX8_prints 3 rfl) ?_
  obtain ⟨x2, eq1, h⟩ := bd_inv h
  refine g_callV C E.2 (rest := []) 3 (ct_X8_priceOf k0 eq1) wd_5_163 mm_X8_priceOf ⟨rfl, by decide, by decide, by decide⟩ rfl (by decide) k0 (by decide) rfl rfl (Nat.le_of_ble_eq_true rfl) (by decide) (dk kX8_prints 4 rfl) ?_
  refine g_istore C (i := 4) (lv' := [(4, .int x2), (0, .ref (za Z a0)), (1, .int a1), (2, .int a2), (3, .int a3)]) (dk kX8_prints 5 rfl) (by decide) rfl ?_
  refine g_aload_n C (i := 0) 1 rfl rfl (dk kX8_prints 6 rfl) ?_
  refine g_aload_n C (i := 0) 1 rfl rfl (dk kX8_prints 7 rfl) ?_
  obtain ⟨b3, eb3, h⟩ := bd_inv h
  obtain ⟨rb3, kb3⟩ := rf_inv eb3
  refine gR_6_0 C k0 (C.w wd_5_3) rb3 (dk kX8_prints 8 rfl) ?_
  refine g_iload_n C (i := 2) 3 rfl rfl (dk kX8_prints 9 rfl) ?_
  refine g_iload_n C (i := 3) 4 rfl rfl (dk kX8_prints 10 rfl) ?_
  obtain ⟨q4, eq4, h⟩ := bd_inv h
  obtain ⟨x6, ex6, h⟩ := lt_inv h
  obtain ⟨μ5, eμ5, h⟩ := lt_inv h
  rw [show q4 = (x6, μ5) from by rw [ex6, eμ5]] at eq4
  refine g_callV C E.2 (rest := []) 3 (ct_X8_plays k0 kb3 eq4) wd_5_167 mm_X8_plays ⟨rfl, by decide, by decide, by decide⟩ rfl (by decide) k0 (by decide) rfl rfl (Nat.le_of_ble_eq_true rfl) (by decide) (dk kX8_prints 11 rfl) ?_
  refine g_istore C (i := 5) (lv' := [(5, .int x6), (4, .int x2), (0, .ref (za Z a0)), (1, .int a1), (2, .int a2), (3, .int a3)]) (dk kX8_prints 12 rfl) (by decide) rfl ?_
  refine g_iload C (i := 5) 0 rfl (dk kX8_prints 13 rfl) ?_
  refine g_aload_n C (i := 0) 2 rfl rfl (dk kX8_prints 14 rfl) ?_
  obtain ⟨b7, eb7, h⟩ := bd_inv h
  obtain ⟨rb7, kb7⟩ := rf_inv eb7
  refine gR_6_0 C k0 (C.w wd_5_3) rb7 (dk kX8_prints 15 rfl) ?_
  refine g_bipush C (v := 6) (by decide) (dk kX8_prints 16 rfl) ?_
  obtain ⟨c8, h⟩ := gd_inv h
  refine g_iald C kb7 c8 (dk kX8_prints 17 rfl) ?_
  obtain ⟨x9, ex9, h⟩ := lt_inv h
  have kj10 : G Z X 8 0 0 38 [(5, .int x6), (4, .int x2), (0, .ref (za Z a0)), (1, .int a1), (2, .int a2), (3, .int a3)] [.int x9] μ5 := by
    refine g_istore C (i := 6) (lv' := [(6, .int x9), (5, .int x6), (4, .int x2), (0, .ref (za Z a0)), (1, .int a1), (2, .int a2), (3, .int a3)]) (dk kX8_prints 22 rfl) (by decide) rfl ?_
    refine g_sipush C (v := 146) (by decide) (dk kX8_prints 23 rfl) ?_
    refine g_bipush C (v := 6) (by decide) (dk kX8_prints 24 rfl) ?_
    refine g_iload_n C (i := 1) 4 rfl rfl (dk kX8_prints 25 rfl) ?_
    refine g_imul C (dk kX8_prints 26 rfl) ?_
    refine g_iadd C (dk kX8_prints 27 rfl) ?_
    obtain ⟨x11, ex11, h⟩ := lt_inv h
    refine g_nmi ex11 ?_
    refine g_istore C (i := 7) (lv' := [(7, .int x11), (6, .int x9), (5, .int x6), (4, .int x2), (0, .ref (za Z a0)), (1, .int a1), (2, .int a2), (3, .int a3)]) (dk kX8_prints 28 rfl) (by decide) rfl ?_
    refine g_aload_n C (i := 0) 4 rfl rfl (dk kX8_prints 29 rfl) ?_
    obtain ⟨b12, eb12, h⟩ := bd_inv h
    obtain ⟨rb12, kb12⟩ := rf_inv eb12
    refine gR_6_0 C k0 (C.w wd_5_3) rb12 (dk kX8_prints 30 rfl) ?_
    refine g_iload C (i := 7) 0 rfl (dk kX8_prints 31 rfl) ?_
    refine g_iconst C (v := 2) (by decide) (dk kX8_prints 32 rfl) ?_
    refine g_iadd C (dk kX8_prints 33 rfl) ?_
    refine g_dup2 C rfl rfl (dk kX8_prints 34 rfl) ?_
    obtain ⟨c13, h⟩ := gd_inv h
    refine g_iald C kb12 c13 (dk kX8_prints 35 rfl) ?_
    refine g_iload C (i := 4) 3 rfl (dk kX8_prints 36 rfl) ?_
    refine g_iadd C (dk kX8_prints 37 rfl) ?_
    obtain ⟨c14, h⟩ := gd_inv h
    obtain ⟨μ15, eμ15, h⟩ := lt_inv h
    refine g_iast C kb12 c14 eμ15 (dk kX8_prints 38 rfl) ?_
    refine g_aload_n C (i := 0) 4 rfl rfl (dk kX8_prints 39 rfl) ?_
    obtain ⟨b16, eb16, h⟩ := bd_inv h
    obtain ⟨rb16, kb16⟩ := rf_inv eb16
    refine gR_6_0 C k0 (C.w wd_5_3) rb16 (dk kX8_prints 40 rfl) ?_
    refine g_iload C (i := 7) 0 rfl (dk kX8_prints 41 rfl) ?_
    refine g_iconst C (v := 3) (by decide) (dk kX8_prints 42 rfl) ?_
    refine g_iadd C (dk kX8_prints 43 rfl) ?_
    refine g_dup2 C rfl rfl (dk kX8_prints 44 rfl) ?_
    obtain ⟨c17, h⟩ := gd_inv h
    refine g_iald C kb16 c17 (dk kX8_prints 45 rfl) ?_
    refine g_iload C (i := 6) 1 rfl (dk kX8_prints 46 rfl) ?_
    refine g_iload C (i := 4) 3 rfl (dk kX8_prints 47 rfl) ?_
    refine g_imul C (dk kX8_prints 48 rfl) ?_
    refine g_iadd C (dk kX8_prints 49 rfl) ?_
    obtain ⟨c18, h⟩ := gd_inv h
    obtain ⟨μ19, eμ19, h⟩ := lt_inv h
    refine g_iast C kb16 c18 eμ19 (dk kX8_prints 50 rfl) ?_
    refine g_aload_n C (i := 0) 4 rfl rfl (dk kX8_prints 51 rfl) ?_
    obtain ⟨b20, eb20, h⟩ := bd_inv h
    obtain ⟨rb20, kb20⟩ := rf_inv eb20
    refine gR_6_0 C k0 (C.w wd_5_3) rb20 (dk kX8_prints 52 rfl) ?_
    refine g_iload C (i := 7) 0 rfl (dk kX8_prints 53 rfl) ?_
    refine g_iconst C (v := 4) (by decide) (dk kX8_prints 54 rfl) ?_
    refine g_iadd C (dk kX8_prints 55 rfl) ?_
    refine g_dup2 C rfl rfl (dk kX8_prints 56 rfl) ?_
    obtain ⟨c21, h⟩ := gd_inv h
    refine g_iald C kb20 c21 (dk kX8_prints 57 rfl) ?_
    refine g_iconst C (v := 1) (by decide) (dk kX8_prints 58 rfl) ?_
    refine g_iadd C (dk kX8_prints 59 rfl) ?_
    obtain ⟨c22, h⟩ := gd_inv h
    obtain ⟨μ23, eμ23, h⟩ := lt_inv h
    refine g_iast C kb20 c22 eμ23 (dk kX8_prints 60 rfl) ?_
    refine g_aload_n C (i := 0) 4 rfl rfl (dk kX8_prints 61 rfl) ?_
    obtain ⟨b24, eb24, h⟩ := bd_inv h
    obtain ⟨rb24, kb24⟩ := rf_inv eb24
    refine gR_6_0 C k0 (C.w wd_5_3) rb24 (dk kX8_prints 62 rfl) ?_
    refine g_iload C (i := 7) 0 rfl (dk kX8_prints 63 rfl) ?_
    refine g_iconst C (v := 5) (by decide) (dk kX8_prints 64 rfl) ?_
    refine g_iadd C (dk kX8_prints 65 rfl) ?_
    refine g_dup2 C rfl rfl (dk kX8_prints 66 rfl) ?_
    obtain ⟨c25, h⟩ := gd_inv h
    refine g_iald C kb24 c25 (dk kX8_prints 67 rfl) ?_
    refine g_iload C (i := 6) 1 rfl (dk kX8_prints 68 rfl) ?_
    refine g_iadd C (dk kX8_prints 69 rfl) ?_
    obtain ⟨c26, h⟩ := gd_inv h
    obtain ⟨μ27, eμ27, h⟩ := lt_inv h
    refine g_iast C kb24 c26 eμ27 (dk kX8_prints 70 rfl) ?_
    refine g_aload_n C (i := 0) 4 rfl rfl (dk kX8_prints 71 rfl) ?_
    obtain ⟨b28, eb28, h⟩ := bd_inv h
    obtain ⟨rb28, kb28⟩ := rf_inv eb28
    refine gR_6_0 C k0 (C.w wd_5_3) rb28 (dk kX8_prints 72 rfl) ?_
    refine g_bipush C (v := 86) (by decide) (dk kX8_prints 73 rfl) ?_
    refine g_bipush C (v := 10) (by decide) (dk kX8_prints 74 rfl) ?_
    refine g_iload_n C (i := 2) 6 rfl rfl (dk kX8_prints 75 rfl) ?_
    refine g_imul C (dk kX8_prints 76 rfl) ?_
    refine g_iadd C (dk kX8_prints 77 rfl) ?_
    refine g_bipush C (v := 8) (by decide) (dk kX8_prints 78 rfl) ?_
    refine g_iadd C (dk kX8_prints 79 rfl) ?_
    refine g_dup2 C rfl rfl (dk kX8_prints 80 rfl) ?_
    obtain ⟨c29, h⟩ := gd_inv h
    refine g_iald C kb28 c29 (dk kX8_prints 81 rfl) ?_
    refine g_iconst C (v := 1) (by decide) (dk kX8_prints 82 rfl) ?_
    refine g_iadd C (dk kX8_prints 83 rfl) ?_
    obtain ⟨c30, h⟩ := gd_inv h
    obtain ⟨μ31, eμ31, h⟩ := lt_inv h
    refine g_iast C kb28 c30 eμ31 (dk kX8_prints 84 rfl) ?_
    refine g_aload_n C (i := 0) 4 rfl rfl (dk kX8_prints 85 rfl) ?_
    obtain ⟨b32, eb32, h⟩ := bd_inv h
    obtain ⟨rb32, kb32⟩ := rf_inv eb32
    refine gR_6_0 C k0 (C.w wd_5_3) rb32 (dk kX8_prints 86 rfl) ?_
    refine g_bipush C (v := 86) (by decide) (dk kX8_prints 87 rfl) ?_
    refine g_bipush C (v := 10) (by decide) (dk kX8_prints 88 rfl) ?_
    refine g_iload_n C (i := 2) 6 rfl rfl (dk kX8_prints 89 rfl) ?_
    refine g_imul C (dk kX8_prints 90 rfl) ?_
    refine g_iadd C (dk kX8_prints 91 rfl) ?_
    refine g_bipush C (v := 9) (by decide) (dk kX8_prints 92 rfl) ?_
    refine g_iadd C (dk kX8_prints 93 rfl) ?_
    refine g_dup2 C rfl rfl (dk kX8_prints 94 rfl) ?_
    obtain ⟨c33, h⟩ := gd_inv h
    refine g_iald C kb32 c33 (dk kX8_prints 95 rfl) ?_
    refine g_iload C (i := 6) 1 rfl (dk kX8_prints 96 rfl) ?_
    refine g_iadd C (dk kX8_prints 97 rfl) ?_
    obtain ⟨c34, h⟩ := gd_inv h
    obtain ⟨μ35, eμ35, h⟩ := lt_inv h
    refine g_iast C kb32 c34 eμ35 (dk kX8_prints 98 rfl) ?_
    refine g_aload_n C (i := 0) 4 rfl rfl (dk kX8_prints 99 rfl) ?_
    obtain ⟨b36, eb36, h⟩ := bd_inv h
    obtain ⟨rb36, kb36⟩ := rf_inv eb36
    refine gR_6_0 C k0 (C.w wd_5_3) rb36 (dk kX8_prints 100 rfl) ?_
    refine g_bipush C (v := 11) (by decide) (dk kX8_prints 101 rfl) ?_
    refine g_dup2 C rfl rfl (dk kX8_prints 102 rfl) ?_
    obtain ⟨c37, h⟩ := gd_inv h
    refine g_iald C kb36 c37 (dk kX8_prints 103 rfl) ?_
    refine g_iconst C (v := 1) (by decide) (dk kX8_prints 104 rfl) ?_
    refine g_iadd C (dk kX8_prints 105 rfl) ?_
    obtain ⟨c38, h⟩ := gd_inv h
    obtain ⟨μ39, eμ39, h⟩ := lt_inv h
    refine g_iast C kb36 c38 eμ39 (dk kX8_prints 106 rfl) ?_
    refine g_aload_n C (i := 0) 4 rfl rfl (dk kX8_prints 107 rfl) ?_
    obtain ⟨b40, eb40, h⟩ := bd_inv h
    obtain ⟨rb40, kb40⟩ := rf_inv eb40
    refine gR_6_0 C k0 (C.w wd_5_3) rb40 (dk kX8_prints 108 rfl) ?_
    refine g_bipush C (v := 12) (by decide) (dk kX8_prints 109 rfl) ?_
    refine g_dup2 C rfl rfl (dk kX8_prints 110 rfl) ?_
    obtain ⟨c41, h⟩ := gd_inv h
    refine g_iald C kb40 c41 (dk kX8_prints 111 rfl) ?_
    refine g_iload C (i := 6) 1 rfl (dk kX8_prints 112 rfl) ?_
    refine g_iadd C (dk kX8_prints 113 rfl) ?_
    obtain ⟨c42, h⟩ := gd_inv h
    obtain ⟨μ43, eμ43, h⟩ := lt_inv h
    refine g_iast C kb40 c42 eμ43 (dk kX8_prints 114 rfl) ?_
    refine g_iload C (i := 5) 2 rfl (dk kX8_prints 115 rfl) ?_
    obtain ⟨h8, h9⟩ := Prod.mk.inj (Option.some.inj h)
    subst h8
    subst h9
    exact g_iret C E rfl rfl (Nat.le_refl 0) (Nat.le_refl 0) (dk kX8_prints 116 rfl)
  clear h
  refine g_icmp_le C (tgt := 37) (dk kX8_prints 18 rfl) (by decide) (fun c44 => ?_) (fun c44 => ?_)
  · refine g_iconst C (v := 0) (by decide) (dk kX8_prints 21 rfl) ?_
    exact g_nmi (by rw [ex9, if_pos c44]) kj10
  · refine g_iconst C (v := 1) (by decide) (dk kX8_prints 19 rfl) ?_
    refine g_goto C (tgt := 38) (dk kX8_prints 20 rfl) (by decide) ?_
    exact g_nmi (by rw [ex9, if_neg c44]) kj10
theorem ct_X8_prints {l : Launch} {Z : ZZ} {μ : Mm} {a0 : Nat} {a1 : Int32} {a2 : Int32} {a3 : Int32} {r : Int32} {μ' : Mm} (k0 : (zk Z a0).1 = 6) (h : f_X8_prints (zk Z) μ a0 a1 a2 a3 = some (r, μ')) : CtM l Z false yX8_prints cX8_prints 8 (some .int) 3 0 0 [.ref (za Z a0), .int a1, .int a2, .int a3] μ (some (.int r)) Z μ' := ct_of rfl rfl (Nat.le_of_ble_eq_true rfl) (fun X C E => t_X8_prints μ a0 a1 a2 a3 r μ' k0 h C E)

def qX8_print : List (Nat × Instr × Nat) := [(0, .aload_n 0, 1), (1, .iload_n 1, 1), (2, .iload_n 2, 1), (3, .iload_n 3, 1), (4, .invokevirtual 125, 3), (7, .istore 4, 2), (9, .aload_n 0, 1), (10, .iload 4, 2), (12, .ifCond .le 8, 3), (15, .iload 4, 2), (17, .goto 18, 3), (20, .aload_n 0, 1), (21, .iload_n 1, 1), (22, .iload_n 2, 1), (23, .iload_n 3, 1), (24, .invokevirtual 115, 3), (27, .ifCond .le 7, 3), (30, .iconst 3, 1), (31, .goto 4, 3), (34, .iconst 0, 1), (35, .invokevirtual 44, 3), (38, .ifCond .eq 5, 3), (41, .iconst 0, 1), (42, .ireturn, 1), (43, .aload_n 0, 1), (44, .invokevirtual 48, 3), (47, .aload_n 0, 1), (48, .iload_n 1, 1), (49, .iload_n 2, 1), (50, .iload_n 3, 1), (51, .invokevirtual 128, 3), (54, .ireturn, 1)]
theorem kX8_print : ∀ q ∈ qX8_print, decode cX8_print q.1 = .ok q.2 := by decide +kernel
def f_X8_print (K : Nat → Nat × Nat) (μ : Mm) (a0 : Nat) (a1 : Int32) (a2 : Int32) (a3 : Int32) : Option (Int32 × Mm) :=
  bd (f_X8_wrong K μ a0 a1 a2 a3) fun x2 => if x2 ≤ 0 then (bd (f_X8_whyNot K μ a0 a1 a2 a3) fun x5 => lt1 (α := Int32) (if x5 ≤ 0 then 0 else 3) fun x6 => bd (f_X8_throwsAt K μ a0 x6) fun q8 => lt1 q8.1 fun x10 => lt1 q8.2 fun μ9 => if x10 = 0 then (bd (f_X8_saves K μ9 a0) fun μ13 => bd (f_X8_prints K μ13 a0 a1 a2 a3) fun q14 => lt1 q14.1 fun x16 => lt1 q14.2 fun μ15 => some (x16, μ15)) else (some (0, μ9))) else (bd (f_X8_throwsAt K μ a0 x2) fun q18 => lt1 q18.1 fun x20 => lt1 q18.2 fun μ19 => if x20 = 0 then (bd (f_X8_saves K μ19 a0) fun μ23 => bd (f_X8_prints K μ23 a0 a1 a2 a3) fun q24 => lt1 q24.1 fun x26 => lt1 q24.2 fun μ25 => some (x26, μ25)) else (some (0, μ19)))
set_option maxRecDepth 100000 in
set_option maxHeartbeats 4000000 in
theorem t_X8_print {l : Launch} {Z : ZZ} {X : XX} (μ : Mm) (a0 : Nat) (a1 : Int32) (a2 : Int32) (a3 : Int32) (r : Int32) (μ' : Mm) (k0 : (zk Z a0).1 = 6) (h : f_X8_print (zk Z) μ a0 a1 a2 a3 = some (r, μ')) (C : Cx l Z false X cX8_print RX8 5 (some .int)) (E : Ex Z X 4 0 0 (some (.int r)) Z μ') : G Z X 5 0 0 0 [(0, .ref (za Z a0)), (1, .int a1), (2, .int a2), (3, .int a3)] [] μ := by
  unfold f_X8_print at h
  refine g_aload_n C (i := 0) 0 rfl rfl (dk kX8_print 0 rfl) ?_
  refine g_iload_n C (i := 1) 1 rfl rfl (dk kX8_print 1 rfl) ?_
  refine g_iload_n C (i := 2) 2 rfl rfl (dk kX8_print 2 rfl) ?_
  refine g_iload_n C (i := 3) 3 rfl rfl (dk kX8_print 3 rfl) ?_
  obtain ⟨x2, eq1, h⟩ := bd_inv h
  refine g_callV C E.2 (rest := []) 3 (ct_X8_wrong k0 eq1) wd_5_144 mm_X8_wrong ⟨rfl, by decide, by decide, by decide⟩ rfl (by decide) k0 (by decide) rfl rfl (Nat.le_of_ble_eq_true rfl) (by decide) (dk kX8_print 4 rfl) ?_
  refine g_istore C (i := 4) (lv' := [(4, .int x2), (0, .ref (za Z a0)), (1, .int a1), (2, .int a2), (3, .int a3)]) (dk kX8_print 5 rfl) (by decide) rfl ?_
  refine g_aload_n C (i := 0) 1 rfl rfl (dk kX8_print 6 rfl) ?_
  refine g_iload C (i := 4) 0 rfl (dk kX8_print 7 rfl) ?_
  refine g_if_le C (tgt := 20) (dk kX8_print 8 rfl) (by decide) (fun c3 => ?_) (fun c3 => ?_)
  · replace h := ite_t h c3
    refine g_aload_n C (i := 0) 1 rfl rfl (dk kX8_print 11 rfl) ?_
    refine g_iload_n C (i := 1) 2 rfl rfl (dk kX8_print 12 rfl) ?_
    refine g_iload_n C (i := 2) 3 rfl rfl (dk kX8_print 13 rfl) ?_
    refine g_iload_n C (i := 3) 4 rfl rfl (dk kX8_print 14 rfl) ?_
    obtain ⟨x5, eq4, h⟩ := bd_inv h
    refine g_callV C E.2 (rest := [.ref (za Z a0)]) 3 (ct_X8_whyNot k0 eq4) wd_5_148 mm_X8_whyNot ⟨rfl, by decide, by decide, by decide⟩ rfl (by decide) k0 (by decide) rfl rfl (Nat.le_of_ble_eq_true rfl) (by decide) (dk kX8_print 15 rfl) ?_
    obtain ⟨x6, ex6, h⟩ := lt_inv h
    have kj7 : G Z X 5 0 0 35 [(4, .int x2), (0, .ref (za Z a0)), (1, .int a1), (2, .int a2), (3, .int a3)] [.int x6, .ref (za Z a0)] μ := by
      obtain ⟨q8, eq8, h⟩ := bd_inv h
      obtain ⟨x10, ex10, h⟩ := lt_inv h
      obtain ⟨μ9, eμ9, h⟩ := lt_inv h
      rw [show q8 = (x10, μ9) from by rw [ex10, eμ9]] at eq8
      refine g_callV C E.2 (rest := []) 1 (ct_X8_throwsAt k0 eq8) wd_5_48 mm_X8_throwsAt ⟨rfl, by decide, by decide, by decide⟩ rfl (by decide) k0 (by decide) rfl rfl (Nat.le_of_ble_eq_true rfl) (by decide) (dk kX8_print 20 rfl) ?_
      refine g_if_eq C (tgt := 43) (dk kX8_print 21 rfl) (by decide) (fun c11 => ?_) (fun c11 => ?_)
      · replace h := ite_t h c11
        refine g_aload_n C (i := 0) 1 rfl rfl (dk kX8_print 24 rfl) ?_
        obtain ⟨μ13, eq12, h⟩ := bd_inv h
        refine g_callV C E.2 (rest := []) 0 (ct_X8_saves k0 eq12) wd_5_52 mm_X8_saves ⟨rfl, by decide, by decide, by decide⟩ rfl (by decide) k0 (by decide) rfl rfl (Nat.le_of_ble_eq_true rfl) (by decide) (dk kX8_print 25 rfl) ?_
        refine g_aload_n C (i := 0) 1 rfl rfl (dk kX8_print 26 rfl) ?_
        refine g_iload_n C (i := 1) 2 rfl rfl (dk kX8_print 27 rfl) ?_
        refine g_iload_n C (i := 2) 3 rfl rfl (dk kX8_print 28 rfl) ?_
        refine g_iload_n C (i := 3) 4 rfl rfl (dk kX8_print 29 rfl) ?_
        obtain ⟨q14, eq14, h⟩ := bd_inv h
        obtain ⟨x16, ex16, h⟩ := lt_inv h
        obtain ⟨μ15, eμ15, h⟩ := lt_inv h
        rw [show q14 = (x16, μ15) from by rw [ex16, eμ15]] at eq14
        refine g_callV C E.2 (rest := []) 3 (ct_X8_prints k0 eq14) wd_5_159 mm_X8_prints ⟨rfl, by decide, by decide, by decide⟩ rfl (by decide) k0 (by decide) rfl rfl (Nat.le_of_ble_eq_true rfl) (by decide) (dk kX8_print 30 rfl) ?_
        obtain ⟨h8, h9⟩ := Prod.mk.inj (Option.some.inj h)
        subst h8
        subst h9
        exact g_iret C E rfl rfl (Nat.le_refl 0) (Nat.le_refl 0) (dk kX8_print 31 rfl)
      · replace h := ite_f h c11
        refine g_iconst C (v := 0) (by decide) (dk kX8_print 22 rfl) ?_
        obtain ⟨h8, h9⟩ := Prod.mk.inj (Option.some.inj h)
        subst h8
        subst h9
        exact g_iret C E rfl rfl (Nat.le_refl 0) (Nat.le_refl 0) (dk kX8_print 23 rfl)
    clear h
    refine g_if_le C (tgt := 34) (dk kX8_print 16 rfl) (by decide) (fun c17 => ?_) (fun c17 => ?_)
    · refine g_iconst C (v := 0) (by decide) (dk kX8_print 19 rfl) ?_
      exact g_nmi (by rw [ex6, if_pos c17]) kj7
    · refine g_iconst C (v := 3) (by decide) (dk kX8_print 17 rfl) ?_
      refine g_goto C (tgt := 35) (dk kX8_print 18 rfl) (by decide) ?_
      exact g_nmi (by rw [ex6, if_neg c17]) kj7
  · replace h := ite_f h c3
    refine g_iload C (i := 4) 0 rfl (dk kX8_print 9 rfl) ?_
    refine g_goto C (tgt := 35) (dk kX8_print 10 rfl) (by decide) ?_
    obtain ⟨q18, eq18, h⟩ := bd_inv h
    obtain ⟨x20, ex20, h⟩ := lt_inv h
    obtain ⟨μ19, eμ19, h⟩ := lt_inv h
    rw [show q18 = (x20, μ19) from by rw [ex20, eμ19]] at eq18
    refine g_callV C E.2 (rest := []) 1 (ct_X8_throwsAt k0 eq18) wd_5_48 mm_X8_throwsAt ⟨rfl, by decide, by decide, by decide⟩ rfl (by decide) k0 (by decide) rfl rfl (Nat.le_of_ble_eq_true rfl) (by decide) (dk kX8_print 20 rfl) ?_
    refine g_if_eq C (tgt := 43) (dk kX8_print 21 rfl) (by decide) (fun c21 => ?_) (fun c21 => ?_)
    · replace h := ite_t h c21
      refine g_aload_n C (i := 0) 1 rfl rfl (dk kX8_print 24 rfl) ?_
      obtain ⟨μ23, eq22, h⟩ := bd_inv h
      refine g_callV C E.2 (rest := []) 0 (ct_X8_saves k0 eq22) wd_5_52 mm_X8_saves ⟨rfl, by decide, by decide, by decide⟩ rfl (by decide) k0 (by decide) rfl rfl (Nat.le_of_ble_eq_true rfl) (by decide) (dk kX8_print 25 rfl) ?_
      refine g_aload_n C (i := 0) 1 rfl rfl (dk kX8_print 26 rfl) ?_
      refine g_iload_n C (i := 1) 2 rfl rfl (dk kX8_print 27 rfl) ?_
      refine g_iload_n C (i := 2) 3 rfl rfl (dk kX8_print 28 rfl) ?_
      refine g_iload_n C (i := 3) 4 rfl rfl (dk kX8_print 29 rfl) ?_
      obtain ⟨q24, eq24, h⟩ := bd_inv h
      obtain ⟨x26, ex26, h⟩ := lt_inv h
      obtain ⟨μ25, eμ25, h⟩ := lt_inv h
      rw [show q24 = (x26, μ25) from by rw [ex26, eμ25]] at eq24
      refine g_callV C E.2 (rest := []) 3 (ct_X8_prints k0 eq24) wd_5_159 mm_X8_prints ⟨rfl, by decide, by decide, by decide⟩ rfl (by decide) k0 (by decide) rfl rfl (Nat.le_of_ble_eq_true rfl) (by decide) (dk kX8_print 30 rfl) ?_
      obtain ⟨h8, h9⟩ := Prod.mk.inj (Option.some.inj h)
      subst h8
      subst h9
      exact g_iret C E rfl rfl (Nat.le_refl 0) (Nat.le_refl 0) (dk kX8_print 31 rfl)
    · replace h := ite_f h c21
      refine g_iconst C (v := 0) (by decide) (dk kX8_print 22 rfl) ?_
      obtain ⟨h8, h9⟩ := Prod.mk.inj (Option.some.inj h)
      subst h8
      subst h9
      exact g_iret C E rfl rfl (Nat.le_refl 0) (Nat.le_refl 0) (dk kX8_print 23 rfl)
theorem ct_X8_print {l : Launch} {Z : ZZ} {μ : Mm} {a0 : Nat} {a1 : Int32} {a2 : Int32} {a3 : Int32} {r : Int32} {μ' : Mm} (k0 : (zk Z a0).1 = 6) (h : f_X8_print (zk Z) μ a0 a1 a2 a3 = some (r, μ')) : CtM l Z false yX8_print cX8_print 5 (some .int) 4 0 0 [.ref (za Z a0), .int a1, .int a2, .int a3] μ (some (.int r)) Z μ' := ct_of rfl rfl (Nat.le_of_ble_eq_true rfl) (fun X C E => t_X8_print μ a0 a1 a2 a3 r μ' k0 h C E)

def qX8_printBest : List (Nat × Instr × Nat) := [(0, .aload_n 0, 1), (1, .iload_n 1, 1), (2, .iload_n 2, 1), (3, .iconst 0, 1), (4, .invokevirtual 125, 3), (7, .istore_n 3, 1), (8, .iload_n 3, 1), (9, .ifCond .le 7, 3), (12, .iconst (-1), 1), (13, .goto 9, 3), (16, .aload_n 0, 1), (17, .iload_n 1, 1), (18, .iload_n 2, 1), (19, .invokevirtual 131, 3), (22, .istore 4, 2), (24, .aload_n 0, 1), (25, .iload_n 3, 1), (26, .ifCond .le 7, 3), (29, .iconst 1, 1), (30, .goto 14, 3), (33, .iload 4, 2), (35, .iconst (-1), 1), (36, .if_icmp .ne 7, 3), (39, .iconst 2, 1), (40, .goto 4, 3), (43, .iconst 0, 1), (44, .invokevirtual 44, 3), (47, .ifCond .eq 5, 3), (50, .iconst 0, 1), (51, .ireturn, 1), (52, .aload_n 0, 1), (53, .invokevirtual 48, 3), (56, .aload_n 0, 1), (57, .iload_n 1, 1), (58, .iload_n 2, 1), (59, .iload 4, 2), (61, .invokevirtual 128, 3), (64, .istore 5, 2), (66, .iload 5, 2), (68, .ifCond .ge 7, 3), (71, .iconst (-1), 1), (72, .goto 5, 3), (75, .iload 4, 2), (77, .ireturn, 1)]
theorem kX8_printBest : ∀ q ∈ qX8_printBest, decode cX8_printBest q.1 = .ok q.2 := by decide +kernel
def f_X8_printBest (K : Nat → Nat × Nat) (μ : Mm) (a0 : Nat) (a1 : Int32) (a2 : Int32) : Option (Int32 × Mm) :=
  bd (f_X8_wrong K μ a0 a1 a2 0) fun x2 => if x2 ≤ 0 then (bd (f_X8_best K μ a0 a1 a2) fun q4 => lt1 q4.1 fun x6 => lt1 q4.2 fun μ5 => lt1 (α := Int32) (if x2 ≤ 0 then (if x6 = (-1) then 2 else 0) else 1) fun x7 => bd (f_X8_throwsAt K μ5 a0 x7) fun q9 => lt1 q9.1 fun x11 => lt1 q9.2 fun μ10 => if x11 = 0 then (bd (f_X8_saves K μ10 a0) fun μ14 => bd (f_X8_prints K μ14 a0 a1 a2 x6) fun q15 => lt1 q15.1 fun x17 => lt1 q15.2 fun μ16 => lt1 (α := Int32) (if 0 ≤ x17 then x6 else (-1)) fun x18 => some (x18, μ16)) else (some (0, μ10))) else (bd (f_X8_throwsAt K μ a0 1) fun q24 => lt1 q24.1 fun x26 => lt1 q24.2 fun μ25 => if x26 = 0 then (bd (f_X8_saves K μ25 a0) fun μ29 => bd (f_X8_prints K μ29 a0 a1 a2 (-1)) fun q30 => lt1 q30.1 fun x32 => lt1 q30.2 fun μ31 => lt1 (α := Int32) (if 0 ≤ x32 then (-1) else (-1)) fun x33 => some (x33, μ31)) else (some (0, μ25)))
set_option maxRecDepth 100000 in
set_option maxHeartbeats 4000000 in
theorem t_X8_printBest {l : Launch} {Z : ZZ} {X : XX} (μ : Mm) (a0 : Nat) (a1 : Int32) (a2 : Int32) (r : Int32) (μ' : Mm) (k0 : (zk Z a0).1 = 6) (h : f_X8_printBest (zk Z) μ a0 a1 a2 = some (r, μ')) (C : Cx l Z false X cX8_printBest RX8 6 (some .int)) (E : Ex Z X 5 0 0 (some (.int r)) Z μ') : G Z X 6 0 0 0 [(0, .ref (za Z a0)), (1, .int a1), (2, .int a2)] [] μ := by
  unfold f_X8_printBest at h
  refine g_aload_n C (i := 0) 0 rfl rfl (dk kX8_printBest 0 rfl) ?_
  refine g_iload_n C (i := 1) 1 rfl rfl (dk kX8_printBest 1 rfl) ?_
  refine g_iload_n C (i := 2) 2 rfl rfl (dk kX8_printBest 2 rfl) ?_
  refine g_iconst C (v := 0) (by decide) (dk kX8_printBest 3 rfl) ?_
  obtain ⟨x2, eq1, h⟩ := bd_inv h
  refine g_callV C E.2 (rest := []) 3 (ct_X8_wrong k0 eq1) wd_5_144 mm_X8_wrong ⟨rfl, by decide, by decide, by decide⟩ rfl (by decide) k0 (by decide) rfl rfl (Nat.le_of_ble_eq_true rfl) (by decide) (dk kX8_printBest 4 rfl) ?_
  refine g_istore_n C (i := 3) (lv' := [(3, .int x2), (0, .ref (za Z a0)), (1, .int a1), (2, .int a2)]) (dk kX8_printBest 5 rfl) rfl (by decide) rfl ?_
  refine g_iload_n C (i := 3) 0 rfl rfl (dk kX8_printBest 6 rfl) ?_
  refine g_if_le C (tgt := 16) (dk kX8_printBest 7 rfl) (by decide) (fun c3 => ?_) (fun c3 => ?_)
  · replace h := ite_t h c3
    refine g_aload_n C (i := 0) 1 rfl rfl (dk kX8_printBest 10 rfl) ?_
    refine g_iload_n C (i := 1) 2 rfl rfl (dk kX8_printBest 11 rfl) ?_
    refine g_iload_n C (i := 2) 3 rfl rfl (dk kX8_printBest 12 rfl) ?_
    obtain ⟨q4, eq4, h⟩ := bd_inv h
    obtain ⟨x6, ex6, h⟩ := lt_inv h
    obtain ⟨μ5, eμ5, h⟩ := lt_inv h
    rw [show q4 = (x6, μ5) from by rw [ex6, eμ5]] at eq4
    refine g_callV C E.2 (rest := []) 2 (ct_X8_best k0 eq4) wd_5_181 mm_X8_best ⟨rfl, by decide, by decide, by decide⟩ rfl (by decide) k0 (by decide) rfl rfl (Nat.le_of_ble_eq_true rfl) (by decide) (dk kX8_printBest 13 rfl) ?_
    refine g_istore C (i := 4) (lv' := [(4, .int x6), (3, .int x2), (0, .ref (za Z a0)), (1, .int a1), (2, .int a2)]) (dk kX8_printBest 14 rfl) (by decide) rfl ?_
    refine g_aload_n C (i := 0) 2 rfl rfl (dk kX8_printBest 15 rfl) ?_
    refine g_iload_n C (i := 3) 1 rfl rfl (dk kX8_printBest 16 rfl) ?_
    obtain ⟨x7, ex7, h⟩ := lt_inv h
    have kj8 : G Z X 6 0 0 44 [(4, .int x6), (3, .int x2), (0, .ref (za Z a0)), (1, .int a1), (2, .int a2)] [.int x7, .ref (za Z a0)] μ5 := by
      obtain ⟨q9, eq9, h⟩ := bd_inv h
      obtain ⟨x11, ex11, h⟩ := lt_inv h
      obtain ⟨μ10, eμ10, h⟩ := lt_inv h
      rw [show q9 = (x11, μ10) from by rw [ex11, eμ10]] at eq9
      refine g_callV C E.2 (rest := []) 1 (ct_X8_throwsAt k0 eq9) wd_5_48 mm_X8_throwsAt ⟨rfl, by decide, by decide, by decide⟩ rfl (by decide) k0 (by decide) rfl rfl (Nat.le_of_ble_eq_true rfl) (by decide) (dk kX8_printBest 26 rfl) ?_
      refine g_if_eq C (tgt := 52) (dk kX8_printBest 27 rfl) (by decide) (fun c12 => ?_) (fun c12 => ?_)
      · replace h := ite_t h c12
        refine g_aload_n C (i := 0) 2 rfl rfl (dk kX8_printBest 30 rfl) ?_
        obtain ⟨μ14, eq13, h⟩ := bd_inv h
        refine g_callV C E.2 (rest := []) 0 (ct_X8_saves k0 eq13) wd_5_52 mm_X8_saves ⟨rfl, by decide, by decide, by decide⟩ rfl (by decide) k0 (by decide) rfl rfl (Nat.le_of_ble_eq_true rfl) (by decide) (dk kX8_printBest 31 rfl) ?_
        refine g_aload_n C (i := 0) 2 rfl rfl (dk kX8_printBest 32 rfl) ?_
        refine g_iload_n C (i := 1) 3 rfl rfl (dk kX8_printBest 33 rfl) ?_
        refine g_iload_n C (i := 2) 4 rfl rfl (dk kX8_printBest 34 rfl) ?_
        refine g_iload C (i := 4) 0 rfl (dk kX8_printBest 35 rfl) ?_
        obtain ⟨q15, eq15, h⟩ := bd_inv h
        obtain ⟨x17, ex17, h⟩ := lt_inv h
        obtain ⟨μ16, eμ16, h⟩ := lt_inv h
        rw [show q15 = (x17, μ16) from by rw [ex17, eμ16]] at eq15
        refine g_callV C E.2 (rest := []) 3 (ct_X8_prints k0 eq15) wd_5_159 mm_X8_prints ⟨rfl, by decide, by decide, by decide⟩ rfl (by decide) k0 (by decide) rfl rfl (Nat.le_of_ble_eq_true rfl) (by decide) (dk kX8_printBest 36 rfl) ?_
        refine g_istore C (i := 5) (lv' := [(5, .int x17), (4, .int x6), (3, .int x2), (0, .ref (za Z a0)), (1, .int a1), (2, .int a2)]) (dk kX8_printBest 37 rfl) (by decide) rfl ?_
        refine g_iload C (i := 5) 0 rfl (dk kX8_printBest 38 rfl) ?_
        obtain ⟨x18, ex18, h⟩ := lt_inv h
        have kj19 : G Z X 6 0 0 77 [(5, .int x17), (4, .int x6), (3, .int x2), (0, .ref (za Z a0)), (1, .int a1), (2, .int a2)] [.int x18] μ16 := by
          obtain ⟨h8, h9⟩ := Prod.mk.inj (Option.some.inj h)
          subst h8
          subst h9
          exact g_iret C E rfl rfl (Nat.le_refl 0) (Nat.le_refl 0) (dk kX8_printBest 43 rfl)
        clear h
        refine g_if_ge C (tgt := 75) (dk kX8_printBest 39 rfl) (by decide) (fun c20 => ?_) (fun c20 => ?_)
        · refine g_iload C (i := 4) 1 rfl (dk kX8_printBest 42 rfl) ?_
          exact g_nmi (by rw [ex18, if_pos c20]) kj19
        · refine g_iconst C (v := (-1)) (by decide) (dk kX8_printBest 40 rfl) ?_
          refine g_goto C (tgt := 77) (dk kX8_printBest 41 rfl) (by decide) ?_
          exact g_nmi (by rw [ex18, if_neg c20]) kj19
      · replace h := ite_f h c12
        refine g_iconst C (v := 0) (by decide) (dk kX8_printBest 28 rfl) ?_
        obtain ⟨h8, h9⟩ := Prod.mk.inj (Option.some.inj h)
        subst h8
        subst h9
        exact g_iret C E rfl rfl (Nat.le_refl 0) (Nat.le_refl 0) (dk kX8_printBest 29 rfl)
    clear h
    refine g_if_le C (tgt := 33) (dk kX8_printBest 17 rfl) (by decide) (fun c21 => ?_) (fun c21 => ?_)
    · refine g_iload C (i := 4) 0 rfl (dk kX8_printBest 20 rfl) ?_
      refine g_iconst C (v := (-1)) (by decide) (dk kX8_printBest 21 rfl) ?_
      refine g_icmp_ne C (tgt := 43) (dk kX8_printBest 22 rfl) (by decide) (fun c22 => ?_) (fun c22 => ?_)
      · refine g_iconst C (v := 0) (by decide) (dk kX8_printBest 25 rfl) ?_
        exact g_nmi (by rw [ex7, if_pos c21, if_neg c22]) kj8
      · refine g_iconst C (v := 2) (by decide) (dk kX8_printBest 23 rfl) ?_
        refine g_goto C (tgt := 44) (dk kX8_printBest 24 rfl) (by decide) ?_
        exact g_nmi (by rw [ex7, if_pos c21, if_pos c22]) kj8
    · refine g_iconst C (v := 1) (by decide) (dk kX8_printBest 18 rfl) ?_
      refine g_goto C (tgt := 44) (dk kX8_printBest 19 rfl) (by decide) ?_
      exact g_nmi (by rw [ex7, if_neg c21]) kj8
  · replace h := ite_f h c3
    refine g_iconst C (v := (-1)) (by decide) (dk kX8_printBest 8 rfl) ?_
    refine g_goto C (tgt := 22) (dk kX8_printBest 9 rfl) (by decide) ?_
    refine g_istore C (i := 4) (lv' := [(4, .int (-1)), (3, .int x2), (0, .ref (za Z a0)), (1, .int a1), (2, .int a2)]) (dk kX8_printBest 14 rfl) (by decide) rfl ?_
    refine g_aload_n C (i := 0) 2 rfl rfl (dk kX8_printBest 15 rfl) ?_
    refine g_iload_n C (i := 3) 1 rfl rfl (dk kX8_printBest 16 rfl) ?_
    refine g_if_le C (tgt := 33) (dk kX8_printBest 17 rfl) (by decide) (fun c => by first | exact absurd c c3 | exact absurd c3 c) (fun c23 => ?_)
    refine g_iconst C (v := 1) (by decide) (dk kX8_printBest 18 rfl) ?_
    refine g_goto C (tgt := 44) (dk kX8_printBest 19 rfl) (by decide) ?_
    obtain ⟨q24, eq24, h⟩ := bd_inv h
    obtain ⟨x26, ex26, h⟩ := lt_inv h
    obtain ⟨μ25, eμ25, h⟩ := lt_inv h
    rw [show q24 = (x26, μ25) from by rw [ex26, eμ25]] at eq24
    refine g_callV C E.2 (rest := []) 1 (ct_X8_throwsAt k0 eq24) wd_5_48 mm_X8_throwsAt ⟨rfl, by decide, by decide, by decide⟩ rfl (by decide) k0 (by decide) rfl rfl (Nat.le_of_ble_eq_true rfl) (by decide) (dk kX8_printBest 26 rfl) ?_
    refine g_if_eq C (tgt := 52) (dk kX8_printBest 27 rfl) (by decide) (fun c27 => ?_) (fun c27 => ?_)
    · replace h := ite_t h c27
      refine g_aload_n C (i := 0) 2 rfl rfl (dk kX8_printBest 30 rfl) ?_
      obtain ⟨μ29, eq28, h⟩ := bd_inv h
      refine g_callV C E.2 (rest := []) 0 (ct_X8_saves k0 eq28) wd_5_52 mm_X8_saves ⟨rfl, by decide, by decide, by decide⟩ rfl (by decide) k0 (by decide) rfl rfl (Nat.le_of_ble_eq_true rfl) (by decide) (dk kX8_printBest 31 rfl) ?_
      refine g_aload_n C (i := 0) 2 rfl rfl (dk kX8_printBest 32 rfl) ?_
      refine g_iload_n C (i := 1) 3 rfl rfl (dk kX8_printBest 33 rfl) ?_
      refine g_iload_n C (i := 2) 4 rfl rfl (dk kX8_printBest 34 rfl) ?_
      refine g_iload C (i := 4) 0 rfl (dk kX8_printBest 35 rfl) ?_
      obtain ⟨q30, eq30, h⟩ := bd_inv h
      obtain ⟨x32, ex32, h⟩ := lt_inv h
      obtain ⟨μ31, eμ31, h⟩ := lt_inv h
      rw [show q30 = (x32, μ31) from by rw [ex32, eμ31]] at eq30
      refine g_callV C E.2 (rest := []) 3 (ct_X8_prints k0 eq30) wd_5_159 mm_X8_prints ⟨rfl, by decide, by decide, by decide⟩ rfl (by decide) k0 (by decide) rfl rfl (Nat.le_of_ble_eq_true rfl) (by decide) (dk kX8_printBest 36 rfl) ?_
      refine g_istore C (i := 5) (lv' := [(5, .int x32), (4, .int (-1)), (3, .int x2), (0, .ref (za Z a0)), (1, .int a1), (2, .int a2)]) (dk kX8_printBest 37 rfl) (by decide) rfl ?_
      refine g_iload C (i := 5) 0 rfl (dk kX8_printBest 38 rfl) ?_
      obtain ⟨x33, ex33, h⟩ := lt_inv h
      have kj34 : G Z X 6 0 0 77 [(5, .int x32), (4, .int (-1)), (3, .int x2), (0, .ref (za Z a0)), (1, .int a1), (2, .int a2)] [.int x33] μ31 := by
        obtain ⟨h8, h9⟩ := Prod.mk.inj (Option.some.inj h)
        subst h8
        subst h9
        exact g_iret C E rfl rfl (Nat.le_refl 0) (Nat.le_refl 0) (dk kX8_printBest 43 rfl)
      clear h
      refine g_if_ge C (tgt := 75) (dk kX8_printBest 39 rfl) (by decide) (fun c35 => ?_) (fun c35 => ?_)
      · refine g_iload C (i := 4) 1 rfl (dk kX8_printBest 42 rfl) ?_
        exact g_nmi (by rw [ex33, if_pos c35]) kj34
      · refine g_iconst C (v := (-1)) (by decide) (dk kX8_printBest 40 rfl) ?_
        refine g_goto C (tgt := 77) (dk kX8_printBest 41 rfl) (by decide) ?_
        exact g_nmi (by rw [ex33, if_neg c35]) kj34
    · replace h := ite_f h c27
      refine g_iconst C (v := 0) (by decide) (dk kX8_printBest 28 rfl) ?_
      obtain ⟨h8, h9⟩ := Prod.mk.inj (Option.some.inj h)
      subst h8
      subst h9
      exact g_iret C E rfl rfl (Nat.le_refl 0) (Nat.le_refl 0) (dk kX8_printBest 29 rfl)
theorem ct_X8_printBest {l : Launch} {Z : ZZ} {μ : Mm} {a0 : Nat} {a1 : Int32} {a2 : Int32} {r : Int32} {μ' : Mm} (k0 : (zk Z a0).1 = 6) (h : f_X8_printBest (zk Z) μ a0 a1 a2 = some (r, μ')) : CtM l Z false yX8_printBest cX8_printBest 6 (some .int) 5 0 0 [.ref (za Z a0), .int a1, .int a2] μ (some (.int r)) Z μ' := ct_of rfl rfl (Nat.le_of_ble_eq_true rfl) (fun X C E => t_X8_printBest μ a0 a1 a2 r μ' k0 h C E)

def qX8_replace : List (Nat × Instr × Nat) := [(0, .aload_n 0, 1), (1, .aload_n 0, 1), (2, .iload_n 1, 1), (3, .invokevirtual 72, 3), (6, .ifCond .eq 7, 3), (9, .iconst 0, 1), (10, .goto 4, 3), (13, .iconst 1, 1), (14, .invokevirtual 44, 3), (17, .ifCond .eq 5, 3), (20, .iconst 0, 1), (21, .ireturn, 1), (22, .aload_n 0, 1), (23, .invokevirtual 48, 3), (26, .aload_n 0, 1), (27, .getfield 7, 3), (30, .iload_n 1, 1), (31, .iconst 1, 1), (32, .invokestatic 40, 3), (35, .istore_n 2, 1), (36, .iconst 0, 1), (37, .istore_n 3, 1), (38, .iload_n 3, 1), (39, .iconst 3, 1), (40, .if_icmp .ge 23, 3), (43, .aload_n 0, 1), (44, .getfield 7, 3), (47, .bipush 14, 2), (49, .iconst 3, 1), (50, .iload_n 1, 1), (51, .imul, 1), (52, .iadd, 1), (53, .iload_n 3, 1), (54, .iadd, 1), (55, .iconst 0, 1), (56, .iastore, 1), (57, .iinc 3 1, 3), (60, .goto (-22), 3), (63, .iload_n 2, 1), (64, .ireturn, 1)]
theorem kX8_replace : ∀ q ∈ qX8_replace, decode cX8_replace q.1 = .ok q.2 := by decide +kernel
def f_X8_replace_l38 (K : Nat → Nat × Nat) (v0 : Nat) (v1 : Int32) (v2 : Int32) : Nat → Mm → Int32 → Option (Mm)
  | 0, _, _ => none
  | n + 1, μ, v3 => if 3 ≤ v3 then (some μ) else (bd (rf K μ v0 0 8) fun b15 => gd (inb ((14 + (3 * v1)) + v3) (K b15).2) <| lt1 (sI μ b15 (ix ((14 + (3 * v1)) + v3)) 0) fun μ17 => lt1 (α := Int32) (v3 + 1) fun x18 => f_X8_replace_l38 K v0 v1 v2 n μ17 x18)
def f_X8_replace (K : Nat → Nat × Nat) (μ : Mm) (a0 : Nat) (a1 : Int32) : Option (Int32 × Mm) :=
  bd (f_X8_isDot K μ a0 a1) fun x2 => lt1 (α := Int32) (if x2 = 0 then 1 else 0) fun x3 => bd (f_X8_throwsAt K μ a0 x3) fun q5 => lt1 q5.1 fun x7 => lt1 q5.2 fun μ6 => if x7 = 0 then (bd (f_X8_saves K μ6 a0) fun μ10 => bd (rf K μ10 a0 0 8) fun b11 => bd (f_X8_dotOf K μ10 b11 a1 1) fun x13 => bd (f_X8_replace_l38 K a0 a1 x13 FU μ10 0) fun q19 => lt1 q19 fun μ20 => some (x13, μ20)) else (some (0, μ6))
set_option maxRecDepth 100000 in
set_option maxHeartbeats 4000000 in
theorem gl_X8_replace_38 {l : Launch} {Z : ZZ} {X : XX} (v0 : Nat) (v1 : Int32) (v2 : Int32) (k0 : (zk Z v0).1 = 6) (C : Cx l Z false X cX8_replace RX8 4 (some .int)) (E : xR X = rmm 2 0 0) : ∀ (n : Nat) (μ : Mm) (v3 : Int32) (y : Mm), f_X8_replace_l38 (zk Z) v0 v1 v2 n μ v3 = some y → G Z X 4 0 0 63 [(2, .int v2)] [] y → G Z X 4 0 0 38 [(0, .ref (za Z v0)), (1, .int v1), (2, .int v2), (3, .int v3)] [] μ := by
  intro n
  induction n with
  | zero => intro μ v3 y h he; unfold f_X8_replace_l38 at h; cases h
  | succ n ih =>
    intro μ v3 y h he
    unfold f_X8_replace_l38 at h
    refine g_iload_n C (i := 3) 3 rfl rfl (dk kX8_replace 22 rfl) ?_
    refine g_iconst C (v := 3) (by decide) (dk kX8_replace 23 rfl) ?_
    refine g_icmp_ge C (tgt := 63) (dk kX8_replace 24 rfl) (by decide) (fun c14 => ?_) (fun c14 => ?_)
    · replace h := ite_t h c14
      cases h
      exact g_sub [2] rfl he
    · replace h := ite_f h c14
      refine g_aload_n C (i := 0) 0 rfl rfl (dk kX8_replace 25 rfl) ?_
      obtain ⟨b15, eb15, h⟩ := bd_inv h
      obtain ⟨rb15, kb15⟩ := rf_inv eb15
      refine gR_6_0 C k0 (C.w wd_5_3) rb15 (dk kX8_replace 26 rfl) ?_
      refine g_bipush C (v := 14) (by decide) (dk kX8_replace 27 rfl) ?_
      refine g_iconst C (v := 3) (by decide) (dk kX8_replace 28 rfl) ?_
      refine g_iload_n C (i := 1) 1 rfl rfl (dk kX8_replace 29 rfl) ?_
      refine g_imul C (dk kX8_replace 30 rfl) ?_
      refine g_iadd C (dk kX8_replace 31 rfl) ?_
      refine g_iload_n C (i := 3) 3 rfl rfl (dk kX8_replace 32 rfl) ?_
      refine g_iadd C (dk kX8_replace 33 rfl) ?_
      refine g_iconst C (v := 0) (by decide) (dk kX8_replace 34 rfl) ?_
      obtain ⟨c16, h⟩ := gd_inv h
      obtain ⟨μ17, eμ17, h⟩ := lt_inv h
      refine g_iast C kb15 c16 eμ17 (dk kX8_replace 35 rfl) ?_
      obtain ⟨x18, ex18, h⟩ := lt_inv h
      refine g_iinc C (i := 3) (v := x18) (lv' := [(3, .int x18), (0, .ref (za Z v0)), (1, .int v1), (2, .int v2)]) 3 (dk kX8_replace 36 rfl) rfl (by rw [ex18]; rfl) (by decide) rfl ?_
      refine g_goto C (tgt := 38) (dk kX8_replace 37 rfl) (by decide) ?_
      exact g_sub [1, 2, 3, 0] rfl (ih μ17 x18 y h he)
set_option maxRecDepth 100000 in
set_option maxHeartbeats 4000000 in
theorem t_X8_replace {l : Launch} {Z : ZZ} {X : XX} (μ : Mm) (a0 : Nat) (a1 : Int32) (r : Int32) (μ' : Mm) (k0 : (zk Z a0).1 = 6) (h : f_X8_replace (zk Z) μ a0 a1 = some (r, μ')) (C : Cx l Z false X cX8_replace RX8 4 (some .int)) (E : Ex Z X 2 0 0 (some (.int r)) Z μ') : G Z X 4 0 0 0 [(0, .ref (za Z a0)), (1, .int a1)] [] μ := by
  unfold f_X8_replace at h
  refine g_aload_n C (i := 0) 0 rfl rfl (dk kX8_replace 0 rfl) ?_
  refine g_aload_n C (i := 0) 0 rfl rfl (dk kX8_replace 1 rfl) ?_
  refine g_iload_n C (i := 1) 1 rfl rfl (dk kX8_replace 2 rfl) ?_
  obtain ⟨x2, eq1, h⟩ := bd_inv h
  refine g_callV C E.2 (rest := [.ref (za Z a0)]) 1 (ct_X8_isDot k0 eq1) wd_5_97 mm_X8_isDot ⟨rfl, by decide, by decide, by decide⟩ rfl (by decide) k0 (by decide) rfl rfl (Nat.le_of_ble_eq_true rfl) (by decide) (dk kX8_replace 3 rfl) ?_
  obtain ⟨x3, ex3, h⟩ := lt_inv h
  have kj4 : G Z X 4 0 0 14 [(0, .ref (za Z a0)), (1, .int a1)] [.int x3, .ref (za Z a0)] μ := by
    obtain ⟨q5, eq5, h⟩ := bd_inv h
    obtain ⟨x7, ex7, h⟩ := lt_inv h
    obtain ⟨μ6, eμ6, h⟩ := lt_inv h
    rw [show q5 = (x7, μ6) from by rw [ex7, eμ6]] at eq5
    refine g_callV C E.2 (rest := []) 1 (ct_X8_throwsAt k0 eq5) wd_5_48 mm_X8_throwsAt ⟨rfl, by decide, by decide, by decide⟩ rfl (by decide) k0 (by decide) rfl rfl (Nat.le_of_ble_eq_true rfl) (by decide) (dk kX8_replace 8 rfl) ?_
    refine g_if_eq C (tgt := 22) (dk kX8_replace 9 rfl) (by decide) (fun c8 => ?_) (fun c8 => ?_)
    · replace h := ite_t h c8
      refine g_aload_n C (i := 0) 0 rfl rfl (dk kX8_replace 12 rfl) ?_
      obtain ⟨μ10, eq9, h⟩ := bd_inv h
      refine g_callV C E.2 (rest := []) 0 (ct_X8_saves k0 eq9) wd_5_52 mm_X8_saves ⟨rfl, by decide, by decide, by decide⟩ rfl (by decide) k0 (by decide) rfl rfl (Nat.le_of_ble_eq_true rfl) (by decide) (dk kX8_replace 13 rfl) ?_
      refine g_aload_n C (i := 0) 0 rfl rfl (dk kX8_replace 14 rfl) ?_
      obtain ⟨b11, eb11, h⟩ := bd_inv h
      obtain ⟨rb11, kb11⟩ := rf_inv eb11
      refine gR_6_0 C k0 (C.w wd_5_3) rb11 (dk kX8_replace 15 rfl) ?_
      refine g_iload_n C (i := 1) 1 rfl rfl (dk kX8_replace 16 rfl) ?_
      refine g_iconst C (v := 1) (by decide) (dk kX8_replace 17 rfl) ?_
      obtain ⟨x13, eq12, h⟩ := bd_inv h
      refine g_callS C E.2 (rest := []) 3 (ct_X8_dotOf kb11 eq12) wd_5_60 mm_X8_dotOf ⟨by decide, by decide, by decide⟩ rfl (by decide) rfl (Nat.le_of_ble_eq_true rfl) (by decide) (dk kX8_replace 18 rfl) ?_
      refine g_istore_n C (i := 2) (lv' := [(2, .int x13), (0, .ref (za Z a0)), (1, .int a1)]) (dk kX8_replace 19 rfl) rfl (by decide) rfl ?_
      refine g_iconst C (v := 0) (by decide) (dk kX8_replace 20 rfl) ?_
      refine g_istore_n C (i := 3) (lv' := [(3, .int 0), (2, .int x13), (0, .ref (za Z a0)), (1, .int a1)]) (dk kX8_replace 21 rfl) rfl (by decide) rfl ?_
      obtain ⟨q19, eq19, h⟩ := bd_inv h
      refine g_sub [2, 3, 1, 0] (lv' := [(0, .ref (za Z a0)), (1, .int a1), (2, .int x13), (3, .int 0)]) rfl ?_
      refine gl_X8_replace_38 a0 a1 x13 k0 C E.2 FU μ10 0 _ eq19 ?_
      obtain ⟨μ20, eμ20, h⟩ := lt_inv h
      rw [← eμ20]
      refine g_iload_n C (i := 2) 0 rfl rfl (dk kX8_replace 38 rfl) ?_
      obtain ⟨h8, h9⟩ := Prod.mk.inj (Option.some.inj h)
      subst h8
      subst h9
      exact g_iret C E rfl rfl (Nat.le_refl 0) (Nat.le_refl 0) (dk kX8_replace 39 rfl)
    · replace h := ite_f h c8
      refine g_iconst C (v := 0) (by decide) (dk kX8_replace 10 rfl) ?_
      obtain ⟨h8, h9⟩ := Prod.mk.inj (Option.some.inj h)
      subst h8
      subst h9
      exact g_iret C E rfl rfl (Nat.le_refl 0) (Nat.le_refl 0) (dk kX8_replace 11 rfl)
  clear h
  refine g_if_eq C (tgt := 13) (dk kX8_replace 4 rfl) (by decide) (fun c21 => ?_) (fun c21 => ?_)
  · refine g_iconst C (v := 1) (by decide) (dk kX8_replace 7 rfl) ?_
    exact g_nmi (by rw [ex3, if_pos c21]) kj4
  · refine g_iconst C (v := 0) (by decide) (dk kX8_replace 5 rfl) ?_
    refine g_goto C (tgt := 14) (dk kX8_replace 6 rfl) (by decide) ?_
    exact g_nmi (by rw [ex3, if_neg c21]) kj4
theorem ct_X8_replace {l : Launch} {Z : ZZ} {μ : Mm} {a0 : Nat} {a1 : Int32} {r : Int32} {μ' : Mm} (k0 : (zk Z a0).1 = 6) (h : f_X8_replace (zk Z) μ a0 a1 = some (r, μ')) : CtM l Z false yX8_replace cX8_replace 4 (some .int) 2 0 0 [.ref (za Z a0), .int a1] μ (some (.int r)) Z μ' := ct_of rfl rfl (Nat.le_of_ble_eq_true rfl) (fun X C E => t_X8_replace μ a0 a1 r μ' k0 h C E)
