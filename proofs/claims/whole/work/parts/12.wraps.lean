def qL_addCustomer : List (Nat × Instr × Nat) := [(0, .aload_n 1, 1), (1, .iconst 0, 1), (2, .aload_n 0, 1), (3, .invokevirtual 36, 3), (6, .i2l, 1), (7, .lastore, 1), (8, .goto 6, 3), (11, .astore_n 2, 1), (12, .iconst 1, 1), (13, .ireturn, 1), (14, .iconst 0, 1), (15, .ireturn, 1)]
theorem kL_addCustomer : ∀ q ∈ qL_addCustomer, decode cL_addCustomer q.1 = .ok q.2 := by decide +kernel
def f_L_addCustomer (K : Nat → Nat × Nat) (μ : Mm) (a0 : Nat) (a1 : Nat) : Option (Int32 × Mm) :=
  bd (f_X7_addCustomer K μ a0) fun q1 => lt1 q1.1 fun x3 => lt1 q1.2 fun μ2 => gd (inb 0 (K a1).2) <| lt1 (sJ μ2 a1 (ix 0) (Int32.toInt64 x3)) fun μ5 => some (0, μ5)
set_option maxRecDepth 100000 in
set_option maxHeartbeats 4000000 in
theorem t_L_addCustomer {l : Launch} {Z : ZZ} {X : XX} (μ : Mm) (a0 : Nat) (a1 : Nat) (r : Int32) (μ' : Mm) (k0 : (zk Z a0).1 = 5) (k1 : (zk Z a1).1 = 12) (h : f_L_addCustomer (zk Z) μ a0 a1 = some (r, μ')) (C : Cx l Z false X cL_addCustomer RL 3 (some .int)) (E : Ex Z X 5 0 0 (some (.int r)) Z μ') : G Z X 3 0 0 0 [(0, .ref (za Z a0)), (1, .ref (za Z a1))] [] μ := by
  unfold f_L_addCustomer at h
  refine g_aload_n C (i := 1) 1 rfl rfl (dk kL_addCustomer 0 rfl) ?_
  refine g_iconst C (v := 0) (by decide) (dk kL_addCustomer 1 rfl) ?_
  refine g_aload_n C (i := 0) 0 rfl rfl (dk kL_addCustomer 2 rfl) ?_
  obtain ⟨q1, eq1, h⟩ := bd_inv h
  obtain ⟨x3, ex3, h⟩ := lt_inv h
  obtain ⟨μ2, eμ2, h⟩ := lt_inv h
  rw [show q1 = (x3, μ2) from by rw [ex3, eμ2]] at eq1
  refine g_callV C E.2 (rest := [.int 0, .ref (za Z a1)]) 0 (ct_X7_addCustomer k0 eq1) wd_4_79 mm_X7_addCustomer ⟨rfl, by decide, by decide, by decide⟩ rfl (by decide) k0 (by decide) rfl rfl (Nat.le_of_ble_eq_true rfl) (by decide) (dk kL_addCustomer 3 rfl) ?_
  refine g_i2l C (dk kL_addCustomer 4 rfl) ?_
  obtain ⟨c4, h⟩ := gd_inv h
  obtain ⟨μ5, eμ5, h⟩ := lt_inv h
  refine g_last C k1 c4 eμ5 (dk kL_addCustomer 5 rfl) ?_
  refine g_goto C (tgt := 14) (dk kL_addCustomer 6 rfl) (by decide) ?_
  refine g_iconst C (v := 0) (by decide) (dk kL_addCustomer 10 rfl) ?_
  obtain ⟨h8, h9⟩ := Prod.mk.inj (Option.some.inj h)
  subst h8
  subst h9
  exact g_iret C E rfl rfl (Nat.le_refl 0) (Nat.le_refl 0) (dk kL_addCustomer 11 rfl)
theorem ct_L_addCustomer {l : Launch} {Z : ZZ} {μ : Mm} {a0 : Nat} {a1 : Nat} {r : Int32} {μ' : Mm} (k0 : (zk Z a0).1 = 5) (k1 : (zk Z a1).1 = 12) (h : f_L_addCustomer (zk Z) μ a0 a1 = some (r, μ')) : CtW l Z yL_addCustomer cL_addCustomer 3 (some .int) [(0, 8, 11, 22)] 5 0 0 [.ref (za Z a0), .ref (za Z a1)] μ (some (.int r)) Z μ' := ctw_of rfl rfl (Nat.le_of_ble_eq_true rfl) (fun X C E _ => t_L_addCustomer μ a0 a1 r μ' k0 k1 h C E)

set_option maxRecDepth 100000 in
set_option maxHeartbeats 4000000 in
theorem ctx3_L_addCustomer {l : Launch} {Z : ZZ} {μ : Mm} {a0 : Nat} {a1 : Nat} {μ9 : Mm} (k0 : (zk Z a0).1 = 5) (k1 : (zk Z a1).1 = 12) (hl : l.stackTraces = false) (h : fx_X7_addCustomer (zk Z) μ a0 = some (3, μ9)) : CtW l Z yL_addCustomer cL_addCustomer 3 (some .int) [(0, 8, 11, 22)] 8 1 6 [.ref (za Z a0), .ref (za Z a1)] μ (some (.int 1)) Z μ9 := by
  refine ctw_of rfl rfl (Nat.le_of_ble_eq_true rfl) (fun X C E htab => ?_)
  show G Z X 3 0 0 0 [(0, .ref (za Z a0)), (1, .ref (za Z a1))] [] μ
  refine g_aload_n C (i := 1) 1 rfl rfl (dk kL_addCustomer 0 rfl) ?_
  refine g_iconst C (v := 0) (by decide) (dk kL_addCustomer 1 rfl) ?_
  refine g_aload_n C (i := 0) 0 rfl rfl (dk kL_addCustomer 2 rfl) ?_
  refine gx_catchV (E := "java/lang/IllegalStateException") C E.2 (rest := [.int 0, .ref (za Z a1)]) 0 (by have q := ctx_X7_addCustomer k0 hl h (by decide); exact q) wd_4_79 mm_X7_addCustomer ⟨rfl, by decide, by decide, by decide⟩ rfl (by decide) k0 (by decide) rfl rfl (Nat.le_of_ble_eq_true rfl) (by decide) (dk kL_addCustomer 3 rfl) htab [] [] ⟨0, 8, 11, 22⟩ rfl (fun z hz => by cases hz) (by decide) (by decide) wd_4_41 (List.mem_of_getElem? (i := 2) rfl) (fun q => ?_)
  refine g_astore_n C (i := 2) (lv' := [(2, .ref q), (0, .ref (za Z a0)), (1, .ref (za Z a1))]) (dk kL_addCustomer 7 rfl) rfl (by decide) rfl ?_
  refine g_iconst C (v := 1) (by decide) (dk kL_addCustomer 8 rfl) ?_
  exact g_iret C E rfl rfl (by decide) (by decide) (dk kL_addCustomer 9 rfl)

def qL_addLabel : List (Nat × Instr × Nat) := [(0, .aload_n 3, 1), (1, .iconst 0, 1), (2, .aload_n 0, 1), (3, .iload_n 1, 1), (4, .iload_n 2, 1), (5, .invokevirtual 19, 3), (8, .i2l, 1), (9, .lastore, 1), (10, .goto 11, 3), (13, .astore 4, 2), (15, .iconst 1, 1), (16, .ireturn, 1), (17, .astore 4, 2), (19, .iconst 2, 1), (20, .ireturn, 1), (21, .iconst 0, 1), (22, .ireturn, 1)]
theorem kL_addLabel : ∀ q ∈ qL_addLabel, decode cL_addLabel q.1 = .ok q.2 := by decide +kernel
def f_L_addLabel (K : Nat → Nat × Nat) (μ : Mm) (a0 : Nat) (a1 : Int32) (a2 : Int32) (a3 : Nat) : Option (Int32 × Mm) :=
  bd (f_X7_addLabel K μ a0 a1 a2) fun q1 => lt1 q1.1 fun x3 => lt1 q1.2 fun μ2 => gd (inb 0 (K a3).2) <| lt1 (sJ μ2 a3 (ix 0) (Int32.toInt64 x3)) fun μ5 => some (0, μ5)
set_option maxRecDepth 100000 in
set_option maxHeartbeats 4000000 in
theorem t_L_addLabel {l : Launch} {Z : ZZ} {X : XX} (μ : Mm) (a0 : Nat) (a1 : Int32) (a2 : Int32) (a3 : Nat) (r : Int32) (μ' : Mm) (k0 : (zk Z a0).1 = 5) (k3 : (zk Z a3).1 = 12) (h : f_L_addLabel (zk Z) μ a0 a1 a2 a3 = some (r, μ')) (C : Cx l Z false X cL_addLabel RL 5 (some .int)) (E : Ex Z X 5 0 0 (some (.int r)) Z μ') : G Z X 5 0 0 0 [(0, .ref (za Z a0)), (1, .int a1), (2, .int a2), (3, .ref (za Z a3))] [] μ := by
  unfold f_L_addLabel at h
  refine g_aload_n C (i := 3) 3 rfl rfl (dk kL_addLabel 0 rfl) ?_
  refine g_iconst C (v := 0) (by decide) (dk kL_addLabel 1 rfl) ?_
  refine g_aload_n C (i := 0) 0 rfl rfl (dk kL_addLabel 2 rfl) ?_
  refine g_iload_n C (i := 1) 1 rfl rfl (dk kL_addLabel 3 rfl) ?_
  refine g_iload_n C (i := 2) 2 rfl rfl (dk kL_addLabel 4 rfl) ?_
  obtain ⟨q1, eq1, h⟩ := bd_inv h
  obtain ⟨x3, ex3, h⟩ := lt_inv h
  obtain ⟨μ2, eμ2, h⟩ := lt_inv h
  rw [show q1 = (x3, μ2) from by rw [ex3, eμ2]] at eq1
  refine g_callV C E.2 (rest := [.int 0, .ref (za Z a3)]) 2 (ct_X7_addLabel k0 eq1) wd_4_42 mm_X7_addLabel ⟨rfl, by decide, by decide, by decide⟩ rfl (by decide) k0 (by decide) rfl rfl (Nat.le_of_ble_eq_true rfl) (by decide) (dk kL_addLabel 5 rfl) ?_
  refine g_i2l C (dk kL_addLabel 6 rfl) ?_
  obtain ⟨c4, h⟩ := gd_inv h
  obtain ⟨μ5, eμ5, h⟩ := lt_inv h
  refine g_last C k3 c4 eμ5 (dk kL_addLabel 7 rfl) ?_
  refine g_goto C (tgt := 21) (dk kL_addLabel 8 rfl) (by decide) ?_
  refine g_iconst C (v := 0) (by decide) (dk kL_addLabel 15 rfl) ?_
  obtain ⟨h8, h9⟩ := Prod.mk.inj (Option.some.inj h)
  subst h8
  subst h9
  exact g_iret C E rfl rfl (Nat.le_refl 0) (Nat.le_refl 0) (dk kL_addLabel 16 rfl)
theorem ct_L_addLabel {l : Launch} {Z : ZZ} {μ : Mm} {a0 : Nat} {a1 : Int32} {a2 : Int32} {a3 : Nat} {r : Int32} {μ' : Mm} (k0 : (zk Z a0).1 = 5) (k3 : (zk Z a3).1 = 12) (h : f_L_addLabel (zk Z) μ a0 a1 a2 a3 = some (r, μ')) : CtW l Z yL_addLabel cL_addLabel 5 (some .int) [(0, 10, 13, 13), (0, 10, 17, 22)] 5 0 0 [.ref (za Z a0), .int a1, .int a2, .ref (za Z a3)] μ (some (.int r)) Z μ' := ctw_of rfl rfl (Nat.le_of_ble_eq_true rfl) (fun X C E _ => t_L_addLabel μ a0 a1 a2 a3 r μ' k0 k3 h C E)

set_option maxRecDepth 100000 in
set_option maxHeartbeats 4000000 in
theorem ctx2_L_addLabel {l : Launch} {Z : ZZ} {μ : Mm} {a0 : Nat} {a1 : Int32} {a2 : Int32} {a3 : Nat} {μ9 : Mm} (k0 : (zk Z a0).1 = 5) (k3 : (zk Z a3).1 = 12) (hl : l.stackTraces = false) (h : fx_X7_addLabel (zk Z) μ a0 a1 a2 = some (2, μ9)) : CtW l Z yL_addLabel cL_addLabel 5 (some .int) [(0, 10, 13, 13), (0, 10, 17, 22)] 8 1 6 [.ref (za Z a0), .int a1, .int a2, .ref (za Z a3)] μ (some (.int 1)) Z μ9 := by
  refine ctw_of rfl rfl (Nat.le_of_ble_eq_true rfl) (fun X C E htab => ?_)
  show G Z X 5 0 0 0 [(0, .ref (za Z a0)), (1, .int a1), (2, .int a2), (3, .ref (za Z a3))] [] μ
  refine g_aload_n C (i := 3) 3 rfl rfl (dk kL_addLabel 0 rfl) ?_
  refine g_iconst C (v := 0) (by decide) (dk kL_addLabel 1 rfl) ?_
  refine g_aload_n C (i := 0) 0 rfl rfl (dk kL_addLabel 2 rfl) ?_
  refine g_iload_n C (i := 1) 1 rfl rfl (dk kL_addLabel 3 rfl) ?_
  refine g_iload_n C (i := 2) 2 rfl rfl (dk kL_addLabel 4 rfl) ?_
  refine gx_catchV (E := "java/lang/IllegalArgumentException") C E.2 (rest := [.int 0, .ref (za Z a3)]) 2 (by have q := ctx_X7_addLabel k0 hl h (by decide); exact q) wd_4_42 mm_X7_addLabel ⟨rfl, by decide, by decide, by decide⟩ rfl (by decide) k0 (by decide) rfl rfl (Nat.le_of_ble_eq_true rfl) (by decide) (dk kL_addLabel 5 rfl) htab [] [⟨0, 10, 17, 22⟩] ⟨0, 10, 13, 13⟩ rfl (fun z hz => by cases hz) (by decide) (by decide) wd_4_22 (List.mem_of_getElem? (i := 1) rfl) (fun q => ?_)
  refine g_astore C (i := 4) (lv' := [(4, .ref q), (0, .ref (za Z a0)), (1, .int a1), (2, .int a2), (3, .ref (za Z a3))]) (dk kL_addLabel 9 rfl) (by decide) rfl ?_
  refine g_iconst C (v := 1) (by decide) (dk kL_addLabel 10 rfl) ?_
  exact g_iret C E rfl rfl (by decide) (by decide) (dk kL_addLabel 11 rfl)

set_option maxRecDepth 100000 in
set_option maxHeartbeats 4000000 in
theorem ctx3_L_addLabel {l : Launch} {Z : ZZ} {μ : Mm} {a0 : Nat} {a1 : Int32} {a2 : Int32} {a3 : Nat} {μ9 : Mm} (k0 : (zk Z a0).1 = 5) (k3 : (zk Z a3).1 = 12) (hl : l.stackTraces = false) (h : fx_X7_addLabel (zk Z) μ a0 a1 a2 = some (3, μ9)) : CtW l Z yL_addLabel cL_addLabel 5 (some .int) [(0, 10, 13, 13), (0, 10, 17, 22)] 8 1 6 [.ref (za Z a0), .int a1, .int a2, .ref (za Z a3)] μ (some (.int 2)) Z μ9 := by
  refine ctw_of rfl rfl (Nat.le_of_ble_eq_true rfl) (fun X C E htab => ?_)
  show G Z X 5 0 0 0 [(0, .ref (za Z a0)), (1, .int a1), (2, .int a2), (3, .ref (za Z a3))] [] μ
  refine g_aload_n C (i := 3) 3 rfl rfl (dk kL_addLabel 0 rfl) ?_
  refine g_iconst C (v := 0) (by decide) (dk kL_addLabel 1 rfl) ?_
  refine g_aload_n C (i := 0) 0 rfl rfl (dk kL_addLabel 2 rfl) ?_
  refine g_iload_n C (i := 1) 1 rfl rfl (dk kL_addLabel 3 rfl) ?_
  refine g_iload_n C (i := 2) 2 rfl rfl (dk kL_addLabel 4 rfl) ?_
  refine gx_catchV (E := "java/lang/IllegalStateException") C E.2 (rest := [.int 0, .ref (za Z a3)]) 2 (by have q := ctx_X7_addLabel k0 hl h (by decide); exact q) wd_4_42 mm_X7_addLabel ⟨rfl, by decide, by decide, by decide⟩ rfl (by decide) k0 (by decide) rfl rfl (Nat.le_of_ble_eq_true rfl) (by decide) (dk kL_addLabel 5 rfl) htab [⟨0, 10, 13, 13⟩] [] ⟨0, 10, 17, 22⟩ rfl (fun z hz => by rcases List.mem_cons.mp hz with rfl | hz; exact ⟨by decide, "java/lang/IllegalArgumentException", wd_4_22, List.mem_of_getElem? (i := 2) rfl⟩; cases hz) (by decide) (by decide) wd_4_41 (List.mem_of_getElem? (i := 2) rfl) (fun q => ?_)
  refine g_astore C (i := 4) (lv' := [(4, .ref q), (0, .ref (za Z a0)), (1, .int a1), (2, .int a2), (3, .ref (za Z a3))]) (dk kL_addLabel 12 rfl) (by decide) rfl ?_
  refine g_iconst C (v := 2) (by decide) (dk kL_addLabel 13 rfl) ?_
  exact g_iret C E rfl rfl (by decide) (by decide) (dk kL_addLabel 14 rfl)

def qL_begin : List (Nat × Instr × Nat) := [(0, .aload_n 2, 1), (1, .iconst 0, 1), (2, .aload_n 0, 1), (3, .iload_n 1, 1), (4, .invokevirtual 7, 3), (7, .i2l, 1), (8, .lastore, 1), (9, .goto 6, 3), (12, .astore_n 3, 1), (13, .iconst 1, 1), (14, .ireturn, 1), (15, .iconst 0, 1), (16, .ireturn, 1)]
theorem kL_begin : ∀ q ∈ qL_begin, decode cL_begin q.1 = .ok q.2 := by decide +kernel
def f_L_begin (K : Nat → Nat × Nat) (μ : Mm) (a0 : Nat) (a1 : Int32) (a2 : Nat) : Option (Int32 × Mm) :=
  bd (f_X7_begin K μ a0 a1) fun q1 => lt1 q1.1 fun x3 => lt1 q1.2 fun μ2 => gd (inb 0 (K a2).2) <| lt1 (sJ μ2 a2 (ix 0) (Int32.toInt64 x3)) fun μ5 => some (0, μ5)
set_option maxRecDepth 100000 in
set_option maxHeartbeats 4000000 in
theorem t_L_begin {l : Launch} {Z : ZZ} {X : XX} (μ : Mm) (a0 : Nat) (a1 : Int32) (a2 : Nat) (r : Int32) (μ' : Mm) (k0 : (zk Z a0).1 = 5) (k2 : (zk Z a2).1 = 12) (h : f_L_begin (zk Z) μ a0 a1 a2 = some (r, μ')) (C : Cx l Z false X cL_begin RL 4 (some .int)) (E : Ex Z X 5 0 0 (some (.int r)) Z μ') : G Z X 4 0 0 0 [(0, .ref (za Z a0)), (1, .int a1), (2, .ref (za Z a2))] [] μ := by
  unfold f_L_begin at h
  refine g_aload_n C (i := 2) 2 rfl rfl (dk kL_begin 0 rfl) ?_
  refine g_iconst C (v := 0) (by decide) (dk kL_begin 1 rfl) ?_
  refine g_aload_n C (i := 0) 0 rfl rfl (dk kL_begin 2 rfl) ?_
  refine g_iload_n C (i := 1) 1 rfl rfl (dk kL_begin 3 rfl) ?_
  obtain ⟨q1, eq1, h⟩ := bd_inv h
  obtain ⟨x3, ex3, h⟩ := lt_inv h
  obtain ⟨μ2, eμ2, h⟩ := lt_inv h
  rw [show q1 = (x3, μ2) from by rw [ex3, eμ2]] at eq1
  refine g_callV C E.2 (rest := [.int 0, .ref (za Z a2)]) 1 (ct_X7_begin k0 eq1) wd_4_23 mm_X7_begin ⟨rfl, by decide, by decide, by decide⟩ rfl (by decide) k0 (by decide) rfl rfl (Nat.le_of_ble_eq_true rfl) (by decide) (dk kL_begin 4 rfl) ?_
  refine g_i2l C (dk kL_begin 5 rfl) ?_
  obtain ⟨c4, h⟩ := gd_inv h
  obtain ⟨μ5, eμ5, h⟩ := lt_inv h
  refine g_last C k2 c4 eμ5 (dk kL_begin 6 rfl) ?_
  refine g_goto C (tgt := 15) (dk kL_begin 7 rfl) (by decide) ?_
  refine g_iconst C (v := 0) (by decide) (dk kL_begin 11 rfl) ?_
  obtain ⟨h8, h9⟩ := Prod.mk.inj (Option.some.inj h)
  subst h8
  subst h9
  exact g_iret C E rfl rfl (Nat.le_refl 0) (Nat.le_refl 0) (dk kL_begin 12 rfl)
theorem ct_L_begin {l : Launch} {Z : ZZ} {μ : Mm} {a0 : Nat} {a1 : Int32} {a2 : Nat} {r : Int32} {μ' : Mm} (k0 : (zk Z a0).1 = 5) (k2 : (zk Z a2).1 = 12) (h : f_L_begin (zk Z) μ a0 a1 a2 = some (r, μ')) : CtW l Z yL_begin cL_begin 4 (some .int) [(0, 9, 12, 13)] 5 0 0 [.ref (za Z a0), .int a1, .ref (za Z a2)] μ (some (.int r)) Z μ' := ctw_of rfl rfl (Nat.le_of_ble_eq_true rfl) (fun X C E _ => t_L_begin μ a0 a1 a2 r μ' k0 k2 h C E)

set_option maxRecDepth 100000 in
set_option maxHeartbeats 4000000 in
theorem ctx2_L_begin {l : Launch} {Z : ZZ} {μ : Mm} {a0 : Nat} {a1 : Int32} {a2 : Nat} {μ9 : Mm} (k0 : (zk Z a0).1 = 5) (k2 : (zk Z a2).1 = 12) (hl : l.stackTraces = false) (h : fx_X7_begin (zk Z) μ a0 a1 = some (2, μ9)) : CtW l Z yL_begin cL_begin 4 (some .int) [(0, 9, 12, 13)] 8 1 6 [.ref (za Z a0), .int a1, .ref (za Z a2)] μ (some (.int 1)) Z μ9 := by
  refine ctw_of rfl rfl (Nat.le_of_ble_eq_true rfl) (fun X C E htab => ?_)
  show G Z X 4 0 0 0 [(0, .ref (za Z a0)), (1, .int a1), (2, .ref (za Z a2))] [] μ
  refine g_aload_n C (i := 2) 2 rfl rfl (dk kL_begin 0 rfl) ?_
  refine g_iconst C (v := 0) (by decide) (dk kL_begin 1 rfl) ?_
  refine g_aload_n C (i := 0) 0 rfl rfl (dk kL_begin 2 rfl) ?_
  refine g_iload_n C (i := 1) 1 rfl rfl (dk kL_begin 3 rfl) ?_
  refine gx_catchV (E := "java/lang/IllegalArgumentException") C E.2 (rest := [.int 0, .ref (za Z a2)]) 1 (by have q := ctx_X7_begin k0 hl h (by decide); exact q) wd_4_23 mm_X7_begin ⟨rfl, by decide, by decide, by decide⟩ rfl (by decide) k0 (by decide) rfl rfl (Nat.le_of_ble_eq_true rfl) (by decide) (dk kL_begin 4 rfl) htab [] [] ⟨0, 9, 12, 13⟩ rfl (fun z hz => by cases hz) (by decide) (by decide) wd_4_22 (List.mem_of_getElem? (i := 1) rfl) (fun q => ?_)
  refine g_astore_n C (i := 3) (lv' := [(3, .ref q), (0, .ref (za Z a0)), (1, .int a1), (2, .ref (za Z a2))]) (dk kL_begin 8 rfl) rfl (by decide) rfl ?_
  refine g_iconst C (v := 1) (by decide) (dk kL_begin 9 rfl) ?_
  exact g_iret C E rfl rfl (by decide) (by decide) (dk kL_begin 10 rfl)

def qL_bestOffset : List (Nat × Instr × Nat) := [(0, .aload_n 3, 1), (1, .iconst 0, 1), (2, .aload_n 0, 1), (3, .iload_n 1, 1), (4, .iload_n 2, 1), (5, .invokevirtual 76, 3), (8, .i2l, 1), (9, .lastore, 1), (10, .goto 7, 3), (13, .astore 4, 2), (15, .iconst 1, 1), (16, .ireturn, 1), (17, .iconst 0, 1), (18, .ireturn, 1)]
theorem kL_bestOffset : ∀ q ∈ qL_bestOffset, decode cL_bestOffset q.1 = .ok q.2 := by decide +kernel
def f_L_bestOffset (K : Nat → Nat × Nat) (μ : Mm) (a0 : Nat) (a1 : Int32) (a2 : Int32) (a3 : Nat) : Option (Int32 × Mm) :=
  bd (f_X7_bestOffset K μ a0 a1 a2) fun q1 => lt1 q1.1 fun x3 => lt1 q1.2 fun μ2 => gd (inb 0 (K a3).2) <| lt1 (sJ μ2 a3 (ix 0) (Int32.toInt64 x3)) fun μ5 => some (0, μ5)
set_option maxRecDepth 100000 in
set_option maxHeartbeats 4000000 in
theorem t_L_bestOffset {l : Launch} {Z : ZZ} {X : XX} (μ : Mm) (a0 : Nat) (a1 : Int32) (a2 : Int32) (a3 : Nat) (r : Int32) (μ' : Mm) (k0 : (zk Z a0).1 = 5) (k3 : (zk Z a3).1 = 12) (h : f_L_bestOffset (zk Z) μ a0 a1 a2 a3 = some (r, μ')) (C : Cx l Z false X cL_bestOffset RL 5 (some .int)) (E : Ex Z X 5 0 0 (some (.int r)) Z μ') : G Z X 5 0 0 0 [(0, .ref (za Z a0)), (1, .int a1), (2, .int a2), (3, .ref (za Z a3))] [] μ := by
  unfold f_L_bestOffset at h
  refine g_aload_n C (i := 3) 3 rfl rfl (dk kL_bestOffset 0 rfl) ?_
  refine g_iconst C (v := 0) (by decide) (dk kL_bestOffset 1 rfl) ?_
  refine g_aload_n C (i := 0) 0 rfl rfl (dk kL_bestOffset 2 rfl) ?_
  refine g_iload_n C (i := 1) 1 rfl rfl (dk kL_bestOffset 3 rfl) ?_
  refine g_iload_n C (i := 2) 2 rfl rfl (dk kL_bestOffset 4 rfl) ?_
  obtain ⟨q1, eq1, h⟩ := bd_inv h
  obtain ⟨x3, ex3, h⟩ := lt_inv h
  obtain ⟨μ2, eμ2, h⟩ := lt_inv h
  rw [show q1 = (x3, μ2) from by rw [ex3, eμ2]] at eq1
  refine g_callV C E.2 (rest := [.int 0, .ref (za Z a3)]) 2 (ct_X7_bestOffset k0 eq1) wd_4_199 mm_X7_bestOffset ⟨rfl, by decide, by decide, by decide⟩ rfl (by decide) k0 (by decide) rfl rfl (Nat.le_of_ble_eq_true rfl) (by decide) (dk kL_bestOffset 5 rfl) ?_
  refine g_i2l C (dk kL_bestOffset 6 rfl) ?_
  obtain ⟨c4, h⟩ := gd_inv h
  obtain ⟨μ5, eμ5, h⟩ := lt_inv h
  refine g_last C k3 c4 eμ5 (dk kL_bestOffset 7 rfl) ?_
  refine g_goto C (tgt := 17) (dk kL_bestOffset 8 rfl) (by decide) ?_
  refine g_iconst C (v := 0) (by decide) (dk kL_bestOffset 12 rfl) ?_
  obtain ⟨h8, h9⟩ := Prod.mk.inj (Option.some.inj h)
  subst h8
  subst h9
  exact g_iret C E rfl rfl (Nat.le_refl 0) (Nat.le_refl 0) (dk kL_bestOffset 13 rfl)
theorem ct_L_bestOffset {l : Launch} {Z : ZZ} {μ : Mm} {a0 : Nat} {a1 : Int32} {a2 : Int32} {a3 : Nat} {r : Int32} {μ' : Mm} (k0 : (zk Z a0).1 = 5) (k3 : (zk Z a3).1 = 12) (h : f_L_bestOffset (zk Z) μ a0 a1 a2 a3 = some (r, μ')) : CtW l Z yL_bestOffset cL_bestOffset 5 (some .int) [(0, 10, 13, 28)] 5 0 0 [.ref (za Z a0), .int a1, .int a2, .ref (za Z a3)] μ (some (.int r)) Z μ' := ctw_of rfl rfl (Nat.le_of_ble_eq_true rfl) (fun X C E _ => t_L_bestOffset μ a0 a1 a2 a3 r μ' k0 k3 h C E)

set_option maxRecDepth 100000 in
set_option maxHeartbeats 4000000 in
theorem ctx1_L_bestOffset {l : Launch} {Z : ZZ} {μ : Mm} {a0 : Nat} {a1 : Int32} {a2 : Int32} {a3 : Nat} {μ9 : Mm} (k0 : (zk Z a0).1 = 5) (k3 : (zk Z a3).1 = 12) (hl : l.stackTraces = false) (h : fx_X7_bestOffset (zk Z) μ a0 a1 a2 = some (1, μ9)) : CtW l Z yL_bestOffset cL_bestOffset 5 (some .int) [(0, 10, 13, 28)] 8 1 6 [.ref (za Z a0), .int a1, .int a2, .ref (za Z a3)] μ (some (.int 1)) Z μ9 := by
  refine ctw_of rfl rfl (Nat.le_of_ble_eq_true rfl) (fun X C E htab => ?_)
  show G Z X 5 0 0 0 [(0, .ref (za Z a0)), (1, .int a1), (2, .int a2), (3, .ref (za Z a3))] [] μ
  refine g_aload_n C (i := 3) 3 rfl rfl (dk kL_bestOffset 0 rfl) ?_
  refine g_iconst C (v := 0) (by decide) (dk kL_bestOffset 1 rfl) ?_
  refine g_aload_n C (i := 0) 0 rfl rfl (dk kL_bestOffset 2 rfl) ?_
  refine g_iload_n C (i := 1) 1 rfl rfl (dk kL_bestOffset 3 rfl) ?_
  refine g_iload_n C (i := 2) 2 rfl rfl (dk kL_bestOffset 4 rfl) ?_
  refine gx_catchV (E := "java/lang/IndexOutOfBoundsException") C E.2 (rest := [.int 0, .ref (za Z a3)]) 2 (by have q := ctx_X7_bestOffset k0 hl h (by decide); exact q) wd_4_199 mm_X7_bestOffset ⟨rfl, by decide, by decide, by decide⟩ rfl (by decide) k0 (by decide) rfl rfl (Nat.le_of_ble_eq_true rfl) (by decide) (dk kL_bestOffset 5 rfl) htab [] [] ⟨0, 10, 13, 28⟩ rfl (fun z hz => by cases hz) (by decide) (by decide) wd_4_51 (List.mem_of_getElem? (i := 0) rfl) (fun q => ?_)
  refine g_astore C (i := 4) (lv' := [(4, .ref q), (0, .ref (za Z a0)), (1, .int a1), (2, .int a2), (3, .ref (za Z a3))]) (dk kL_bestOffset 9 rfl) (by decide) rfl ?_
  refine g_iconst C (v := 1) (by decide) (dk kL_bestOffset 10 rfl) ?_
  exact g_iret C E rfl rfl (by decide) (by decide) (dk kL_bestOffset 11 rfl)

def qL_cool : List (Nat × Instr × Nat) := [(0, .aload_n 2, 1), (1, .iconst 0, 1), (2, .aload_n 0, 1), (3, .iload_n 1, 1), (4, .invokevirtual 33, 3), (7, .i2l, 1), (8, .lastore, 1), (9, .goto 6, 3), (12, .astore_n 3, 1), (13, .iconst 1, 1), (14, .ireturn, 1), (15, .iconst 0, 1), (16, .ireturn, 1)]
theorem kL_cool : ∀ q ∈ qL_cool, decode cL_cool q.1 = .ok q.2 := by decide +kernel
def f_L_cool (K : Nat → Nat × Nat) (μ : Mm) (a0 : Nat) (a1 : Int32) (a2 : Nat) : Option (Int32 × Mm) :=
  bd (f_X7_cool K μ a0 a1) fun q1 => lt1 q1.1 fun x3 => lt1 q1.2 fun μ2 => gd (inb 0 (K a2).2) <| lt1 (sJ μ2 a2 (ix 0) (Int32.toInt64 x3)) fun μ5 => some (0, μ5)
set_option maxRecDepth 100000 in
set_option maxHeartbeats 4000000 in
theorem t_L_cool {l : Launch} {Z : ZZ} {X : XX} (μ : Mm) (a0 : Nat) (a1 : Int32) (a2 : Nat) (r : Int32) (μ' : Mm) (k0 : (zk Z a0).1 = 5) (k2 : (zk Z a2).1 = 12) (h : f_L_cool (zk Z) μ a0 a1 a2 = some (r, μ')) (C : Cx l Z false X cL_cool RL 4 (some .int)) (E : Ex Z X 5 0 0 (some (.int r)) Z μ') : G Z X 4 0 0 0 [(0, .ref (za Z a0)), (1, .int a1), (2, .ref (za Z a2))] [] μ := by
  unfold f_L_cool at h
  refine g_aload_n C (i := 2) 2 rfl rfl (dk kL_cool 0 rfl) ?_
  refine g_iconst C (v := 0) (by decide) (dk kL_cool 1 rfl) ?_
  refine g_aload_n C (i := 0) 0 rfl rfl (dk kL_cool 2 rfl) ?_
  refine g_iload_n C (i := 1) 1 rfl rfl (dk kL_cool 3 rfl) ?_
  obtain ⟨q1, eq1, h⟩ := bd_inv h
  obtain ⟨x3, ex3, h⟩ := lt_inv h
  obtain ⟨μ2, eμ2, h⟩ := lt_inv h
  rw [show q1 = (x3, μ2) from by rw [ex3, eμ2]] at eq1
  refine g_callV C E.2 (rest := [.int 0, .ref (za Z a2)]) 1 (ct_X7_cool k0 eq1) wd_4_70 mm_X7_cool ⟨rfl, by decide, by decide, by decide⟩ rfl (by decide) k0 (by decide) rfl rfl (Nat.le_of_ble_eq_true rfl) (by decide) (dk kL_cool 4 rfl) ?_
  refine g_i2l C (dk kL_cool 5 rfl) ?_
  obtain ⟨c4, h⟩ := gd_inv h
  obtain ⟨μ5, eμ5, h⟩ := lt_inv h
  refine g_last C k2 c4 eμ5 (dk kL_cool 6 rfl) ?_
  refine g_goto C (tgt := 15) (dk kL_cool 7 rfl) (by decide) ?_
  refine g_iconst C (v := 0) (by decide) (dk kL_cool 11 rfl) ?_
  obtain ⟨h8, h9⟩ := Prod.mk.inj (Option.some.inj h)
  subst h8
  subst h9
  exact g_iret C E rfl rfl (Nat.le_refl 0) (Nat.le_refl 0) (dk kL_cool 12 rfl)
theorem ct_L_cool {l : Launch} {Z : ZZ} {μ : Mm} {a0 : Nat} {a1 : Int32} {a2 : Nat} {r : Int32} {μ' : Mm} (k0 : (zk Z a0).1 = 5) (k2 : (zk Z a2).1 = 12) (h : f_L_cool (zk Z) μ a0 a1 a2 = some (r, μ')) : CtW l Z yL_cool cL_cool 4 (some .int) [(0, 9, 12, 13)] 5 0 0 [.ref (za Z a0), .int a1, .ref (za Z a2)] μ (some (.int r)) Z μ' := ctw_of rfl rfl (Nat.le_of_ble_eq_true rfl) (fun X C E _ => t_L_cool μ a0 a1 a2 r μ' k0 k2 h C E)

set_option maxRecDepth 100000 in
set_option maxHeartbeats 4000000 in
theorem ctx2_L_cool {l : Launch} {Z : ZZ} {μ : Mm} {a0 : Nat} {a1 : Int32} {a2 : Nat} {μ9 : Mm} (k0 : (zk Z a0).1 = 5) (k2 : (zk Z a2).1 = 12) (hl : l.stackTraces = false) (h : fx_X7_cool (zk Z) μ a0 a1 = some (2, μ9)) : CtW l Z yL_cool cL_cool 4 (some .int) [(0, 9, 12, 13)] 8 1 6 [.ref (za Z a0), .int a1, .ref (za Z a2)] μ (some (.int 1)) Z μ9 := by
  refine ctw_of rfl rfl (Nat.le_of_ble_eq_true rfl) (fun X C E htab => ?_)
  show G Z X 4 0 0 0 [(0, .ref (za Z a0)), (1, .int a1), (2, .ref (za Z a2))] [] μ
  refine g_aload_n C (i := 2) 2 rfl rfl (dk kL_cool 0 rfl) ?_
  refine g_iconst C (v := 0) (by decide) (dk kL_cool 1 rfl) ?_
  refine g_aload_n C (i := 0) 0 rfl rfl (dk kL_cool 2 rfl) ?_
  refine g_iload_n C (i := 1) 1 rfl rfl (dk kL_cool 3 rfl) ?_
  refine gx_catchV (E := "java/lang/IllegalArgumentException") C E.2 (rest := [.int 0, .ref (za Z a2)]) 1 (by have q := ctx_X7_cool k0 hl h (by decide); exact q) wd_4_70 mm_X7_cool ⟨rfl, by decide, by decide, by decide⟩ rfl (by decide) k0 (by decide) rfl rfl (Nat.le_of_ble_eq_true rfl) (by decide) (dk kL_cool 4 rfl) htab [] [] ⟨0, 9, 12, 13⟩ rfl (fun z hz => by cases hz) (by decide) (by decide) wd_4_22 (List.mem_of_getElem? (i := 1) rfl) (fun q => ?_)
  refine g_astore_n C (i := 3) (lv' := [(3, .ref q), (0, .ref (za Z a0)), (1, .int a1), (2, .ref (za Z a2))]) (dk kL_cool 8 rfl) rfl (by decide) rfl ?_
  refine g_iconst C (v := 1) (by decide) (dk kL_cool 9 rfl) ?_
  exact g_iret C E rfl rfl (by decide) (by decide) (dk kL_cool 10 rfl)

def qL_customer : List (Nat × Instr × Nat) := [(0, .aload_n 3, 1), (1, .iconst 0, 1), (2, .aload_n 0, 1), (3, .iload_n 1, 1), (4, .iload_n 2, 1), (5, .invokevirtual 61, 3), (8, .i2l, 1), (9, .lastore, 1), (10, .goto 11, 3), (13, .astore 4, 2), (15, .iconst 1, 1), (16, .ireturn, 1), (17, .astore 4, 2), (19, .iconst 2, 1), (20, .ireturn, 1), (21, .iconst 0, 1), (22, .ireturn, 1)]
theorem kL_customer : ∀ q ∈ qL_customer, decode cL_customer q.1 = .ok q.2 := by decide +kernel
def f_L_customer (K : Nat → Nat × Nat) (μ : Mm) (a0 : Nat) (a1 : Int32) (a2 : Int32) (a3 : Nat) : Option (Int32 × Mm) :=
  bd (f_X7_customer K μ a0 a1 a2) fun x2 => gd (inb 0 (K a3).2) <| lt1 (sJ μ a3 (ix 0) (Int32.toInt64 x2)) fun μ4 => some (0, μ4)
set_option maxRecDepth 100000 in
set_option maxHeartbeats 4000000 in
theorem t_L_customer {l : Launch} {Z : ZZ} {X : XX} (μ : Mm) (a0 : Nat) (a1 : Int32) (a2 : Int32) (a3 : Nat) (r : Int32) (μ' : Mm) (k0 : (zk Z a0).1 = 5) (k3 : (zk Z a3).1 = 12) (h : f_L_customer (zk Z) μ a0 a1 a2 a3 = some (r, μ')) (C : Cx l Z false X cL_customer RL 5 (some .int)) (E : Ex Z X 3 0 0 (some (.int r)) Z μ') : G Z X 5 0 0 0 [(0, .ref (za Z a0)), (1, .int a1), (2, .int a2), (3, .ref (za Z a3))] [] μ := by
  unfold f_L_customer at h
  refine g_aload_n C (i := 3) 3 rfl rfl (dk kL_customer 0 rfl) ?_
  refine g_iconst C (v := 0) (by decide) (dk kL_customer 1 rfl) ?_
  refine g_aload_n C (i := 0) 0 rfl rfl (dk kL_customer 2 rfl) ?_
  refine g_iload_n C (i := 1) 1 rfl rfl (dk kL_customer 3 rfl) ?_
  refine g_iload_n C (i := 2) 2 rfl rfl (dk kL_customer 4 rfl) ?_
  obtain ⟨x2, eq1, h⟩ := bd_inv h
  refine g_callV C E.2 (rest := [.int 0, .ref (za Z a3)]) 2 (ct_X7_customer k0 eq1) wd_4_159 mm_X7_customer ⟨rfl, by decide, by decide, by decide⟩ rfl (by decide) k0 (by decide) rfl rfl (Nat.le_of_ble_eq_true rfl) (by decide) (dk kL_customer 5 rfl) ?_
  refine g_i2l C (dk kL_customer 6 rfl) ?_
  obtain ⟨c3, h⟩ := gd_inv h
  obtain ⟨μ4, eμ4, h⟩ := lt_inv h
  refine g_last C k3 c3 eμ4 (dk kL_customer 7 rfl) ?_
  refine g_goto C (tgt := 21) (dk kL_customer 8 rfl) (by decide) ?_
  refine g_iconst C (v := 0) (by decide) (dk kL_customer 15 rfl) ?_
  obtain ⟨h8, h9⟩ := Prod.mk.inj (Option.some.inj h)
  subst h8
  subst h9
  exact g_iret C E rfl rfl (Nat.le_refl 0) (Nat.le_refl 0) (dk kL_customer 16 rfl)
theorem ct_L_customer {l : Launch} {Z : ZZ} {μ : Mm} {a0 : Nat} {a1 : Int32} {a2 : Int32} {a3 : Nat} {r : Int32} {μ' : Mm} (k0 : (zk Z a0).1 = 5) (k3 : (zk Z a3).1 = 12) (h : f_L_customer (zk Z) μ a0 a1 a2 a3 = some (r, μ')) : CtW l Z yL_customer cL_customer 5 (some .int) [(0, 10, 13, 28), (0, 10, 17, 13)] 3 0 0 [.ref (za Z a0), .int a1, .int a2, .ref (za Z a3)] μ (some (.int r)) Z μ' := ctw_of rfl rfl (Nat.le_of_ble_eq_true rfl) (fun X C E _ => t_L_customer μ a0 a1 a2 a3 r μ' k0 k3 h C E)

set_option maxRecDepth 100000 in
set_option maxHeartbeats 4000000 in
theorem ctx1_L_customer {l : Launch} {Z : ZZ} {μ : Mm} {a0 : Nat} {a1 : Int32} {a2 : Int32} {a3 : Nat} {μ9 : Mm} (k0 : (zk Z a0).1 = 5) (k3 : (zk Z a3).1 = 12) (hl : l.stackTraces = false) (h : fx_X7_customer (zk Z) μ a0 a1 a2 = some (1, μ9)) : CtW l Z yL_customer cL_customer 5 (some .int) [(0, 10, 13, 28), (0, 10, 17, 13)] 8 1 6 [.ref (za Z a0), .int a1, .int a2, .ref (za Z a3)] μ (some (.int 1)) Z μ9 := by
  refine ctw_of rfl rfl (Nat.le_of_ble_eq_true rfl) (fun X C E htab => ?_)
  show G Z X 5 0 0 0 [(0, .ref (za Z a0)), (1, .int a1), (2, .int a2), (3, .ref (za Z a3))] [] μ
  refine g_aload_n C (i := 3) 3 rfl rfl (dk kL_customer 0 rfl) ?_
  refine g_iconst C (v := 0) (by decide) (dk kL_customer 1 rfl) ?_
  refine g_aload_n C (i := 0) 0 rfl rfl (dk kL_customer 2 rfl) ?_
  refine g_iload_n C (i := 1) 1 rfl rfl (dk kL_customer 3 rfl) ?_
  refine g_iload_n C (i := 2) 2 rfl rfl (dk kL_customer 4 rfl) ?_
  refine gx_catchV (E := "java/lang/IndexOutOfBoundsException") C E.2 (rest := [.int 0, .ref (za Z a3)]) 2 (by have q := ctx_X7_customer k0 hl h (by decide); exact q) wd_4_159 mm_X7_customer ⟨rfl, by decide, by decide, by decide⟩ rfl (by decide) k0 (by decide) rfl rfl (Nat.le_of_ble_eq_true rfl) (by decide) (dk kL_customer 5 rfl) htab [] [⟨0, 10, 17, 13⟩] ⟨0, 10, 13, 28⟩ rfl (fun z hz => by cases hz) (by decide) (by decide) wd_4_51 (List.mem_of_getElem? (i := 0) rfl) (fun q => ?_)
  refine g_astore C (i := 4) (lv' := [(4, .ref q), (0, .ref (za Z a0)), (1, .int a1), (2, .int a2), (3, .ref (za Z a3))]) (dk kL_customer 9 rfl) (by decide) rfl ?_
  refine g_iconst C (v := 1) (by decide) (dk kL_customer 10 rfl) ?_
  exact g_iret C E rfl rfl (by decide) (by decide) (dk kL_customer 11 rfl)

set_option maxRecDepth 100000 in
set_option maxHeartbeats 4000000 in
theorem ctx2_L_customer {l : Launch} {Z : ZZ} {μ : Mm} {a0 : Nat} {a1 : Int32} {a2 : Int32} {a3 : Nat} {μ9 : Mm} (k0 : (zk Z a0).1 = 5) (k3 : (zk Z a3).1 = 12) (hl : l.stackTraces = false) (h : fx_X7_customer (zk Z) μ a0 a1 a2 = some (2, μ9)) : CtW l Z yL_customer cL_customer 5 (some .int) [(0, 10, 13, 28), (0, 10, 17, 13)] 8 1 6 [.ref (za Z a0), .int a1, .int a2, .ref (za Z a3)] μ (some (.int 2)) Z μ9 := by
  refine ctw_of rfl rfl (Nat.le_of_ble_eq_true rfl) (fun X C E htab => ?_)
  show G Z X 5 0 0 0 [(0, .ref (za Z a0)), (1, .int a1), (2, .int a2), (3, .ref (za Z a3))] [] μ
  refine g_aload_n C (i := 3) 3 rfl rfl (dk kL_customer 0 rfl) ?_
  refine g_iconst C (v := 0) (by decide) (dk kL_customer 1 rfl) ?_
  refine g_aload_n C (i := 0) 0 rfl rfl (dk kL_customer 2 rfl) ?_
  refine g_iload_n C (i := 1) 1 rfl rfl (dk kL_customer 3 rfl) ?_
  refine g_iload_n C (i := 2) 2 rfl rfl (dk kL_customer 4 rfl) ?_
  refine gx_catchV (E := "java/lang/IllegalArgumentException") C E.2 (rest := [.int 0, .ref (za Z a3)]) 2 (by have q := ctx_X7_customer k0 hl h (by decide); exact q) wd_4_159 mm_X7_customer ⟨rfl, by decide, by decide, by decide⟩ rfl (by decide) k0 (by decide) rfl rfl (Nat.le_of_ble_eq_true rfl) (by decide) (dk kL_customer 5 rfl) htab [⟨0, 10, 13, 28⟩] [] ⟨0, 10, 17, 13⟩ rfl (fun z hz => by rcases List.mem_cons.mp hz with rfl | hz; exact ⟨by decide, "java/lang/IndexOutOfBoundsException", wd_4_51, List.mem_of_getElem? (i := 0) rfl⟩; cases hz) (by decide) (by decide) wd_4_22 (List.mem_of_getElem? (i := 1) rfl) (fun q => ?_)
  refine g_astore C (i := 4) (lv' := [(4, .ref q), (0, .ref (za Z a0)), (1, .int a1), (2, .int a2), (3, .ref (za Z a3))]) (dk kL_customer 12 rfl) (by decide) rfl ?_
  refine g_iconst C (v := 2) (by decide) (dk kL_customer 13 rfl) ?_
  exact g_iret C E rfl rfl (by decide) (by decide) (dk kL_customer 14 rfl)

def qL_dot : List (Nat × Instr × Nat) := [(0, .aload_n 3, 1), (1, .iconst 0, 1), (2, .aload_n 0, 1), (3, .iload_n 1, 1), (4, .iload_n 2, 1), (5, .invokevirtual 52, 3), (8, .i2l, 1), (9, .lastore, 1), (10, .goto 11, 3), (13, .astore 4, 2), (15, .iconst 1, 1), (16, .ireturn, 1), (17, .astore 4, 2), (19, .iconst 2, 1), (20, .ireturn, 1), (21, .iconst 0, 1), (22, .ireturn, 1)]
theorem kL_dot : ∀ q ∈ qL_dot, decode cL_dot q.1 = .ok q.2 := by decide +kernel
def f_L_dot (K : Nat → Nat × Nat) (μ : Mm) (a0 : Nat) (a1 : Int32) (a2 : Int32) (a3 : Nat) : Option (Int32 × Mm) :=
  bd (f_X7_dot K μ a0 a1 a2) fun x2 => gd (inb 0 (K a3).2) <| lt1 (sJ μ a3 (ix 0) (Int32.toInt64 x2)) fun μ4 => some (0, μ4)
set_option maxRecDepth 100000 in
set_option maxHeartbeats 4000000 in
theorem t_L_dot {l : Launch} {Z : ZZ} {X : XX} (μ : Mm) (a0 : Nat) (a1 : Int32) (a2 : Int32) (a3 : Nat) (r : Int32) (μ' : Mm) (k0 : (zk Z a0).1 = 5) (k3 : (zk Z a3).1 = 12) (h : f_L_dot (zk Z) μ a0 a1 a2 a3 = some (r, μ')) (C : Cx l Z false X cL_dot RL 5 (some .int)) (E : Ex Z X 4 0 0 (some (.int r)) Z μ') : G Z X 5 0 0 0 [(0, .ref (za Z a0)), (1, .int a1), (2, .int a2), (3, .ref (za Z a3))] [] μ := by
  unfold f_L_dot at h
  refine g_aload_n C (i := 3) 3 rfl rfl (dk kL_dot 0 rfl) ?_
  refine g_iconst C (v := 0) (by decide) (dk kL_dot 1 rfl) ?_
  refine g_aload_n C (i := 0) 0 rfl rfl (dk kL_dot 2 rfl) ?_
  refine g_iload_n C (i := 1) 1 rfl rfl (dk kL_dot 3 rfl) ?_
  refine g_iload_n C (i := 2) 2 rfl rfl (dk kL_dot 4 rfl) ?_
  obtain ⟨x2, eq1, h⟩ := bd_inv h
  refine g_callV C E.2 (rest := [.int 0, .ref (za Z a3)]) 2 (ct_X7_dot k0 eq1) wd_4_130 mm_X7_dot ⟨rfl, by decide, by decide, by decide⟩ rfl (by decide) k0 (by decide) rfl rfl (Nat.le_of_ble_eq_true rfl) (by decide) (dk kL_dot 5 rfl) ?_
  refine g_i2l C (dk kL_dot 6 rfl) ?_
  obtain ⟨c3, h⟩ := gd_inv h
  obtain ⟨μ4, eμ4, h⟩ := lt_inv h
  refine g_last C k3 c3 eμ4 (dk kL_dot 7 rfl) ?_
  refine g_goto C (tgt := 21) (dk kL_dot 8 rfl) (by decide) ?_
  refine g_iconst C (v := 0) (by decide) (dk kL_dot 15 rfl) ?_
  obtain ⟨h8, h9⟩ := Prod.mk.inj (Option.some.inj h)
  subst h8
  subst h9
  exact g_iret C E rfl rfl (Nat.le_refl 0) (Nat.le_refl 0) (dk kL_dot 16 rfl)
theorem ct_L_dot {l : Launch} {Z : ZZ} {μ : Mm} {a0 : Nat} {a1 : Int32} {a2 : Int32} {a3 : Nat} {r : Int32} {μ' : Mm} (k0 : (zk Z a0).1 = 5) (k3 : (zk Z a3).1 = 12) (h : f_L_dot (zk Z) μ a0 a1 a2 a3 = some (r, μ')) : CtW l Z yL_dot cL_dot 5 (some .int) [(0, 10, 13, 28), (0, 10, 17, 13)] 4 0 0 [.ref (za Z a0), .int a1, .int a2, .ref (za Z a3)] μ (some (.int r)) Z μ' := ctw_of rfl rfl (Nat.le_of_ble_eq_true rfl) (fun X C E _ => t_L_dot μ a0 a1 a2 a3 r μ' k0 k3 h C E)

set_option maxRecDepth 100000 in
set_option maxHeartbeats 4000000 in
theorem ctx1_L_dot {l : Launch} {Z : ZZ} {μ : Mm} {a0 : Nat} {a1 : Int32} {a2 : Int32} {a3 : Nat} {μ9 : Mm} (k0 : (zk Z a0).1 = 5) (k3 : (zk Z a3).1 = 12) (hl : l.stackTraces = false) (h : fx_X7_dot (zk Z) μ a0 a1 a2 = some (1, μ9)) : CtW l Z yL_dot cL_dot 5 (some .int) [(0, 10, 13, 28), (0, 10, 17, 13)] 8 1 6 [.ref (za Z a0), .int a1, .int a2, .ref (za Z a3)] μ (some (.int 1)) Z μ9 := by
  refine ctw_of rfl rfl (Nat.le_of_ble_eq_true rfl) (fun X C E htab => ?_)
  show G Z X 5 0 0 0 [(0, .ref (za Z a0)), (1, .int a1), (2, .int a2), (3, .ref (za Z a3))] [] μ
  refine g_aload_n C (i := 3) 3 rfl rfl (dk kL_dot 0 rfl) ?_
  refine g_iconst C (v := 0) (by decide) (dk kL_dot 1 rfl) ?_
  refine g_aload_n C (i := 0) 0 rfl rfl (dk kL_dot 2 rfl) ?_
  refine g_iload_n C (i := 1) 1 rfl rfl (dk kL_dot 3 rfl) ?_
  refine g_iload_n C (i := 2) 2 rfl rfl (dk kL_dot 4 rfl) ?_
  refine gx_catchV (E := "java/lang/IndexOutOfBoundsException") C E.2 (rest := [.int 0, .ref (za Z a3)]) 2 (by have q := ctx_X7_dot k0 hl h (by decide); exact q) wd_4_130 mm_X7_dot ⟨rfl, by decide, by decide, by decide⟩ rfl (by decide) k0 (by decide) rfl rfl (Nat.le_of_ble_eq_true rfl) (by decide) (dk kL_dot 5 rfl) htab [] [⟨0, 10, 17, 13⟩] ⟨0, 10, 13, 28⟩ rfl (fun z hz => by cases hz) (by decide) (by decide) wd_4_51 (List.mem_of_getElem? (i := 0) rfl) (fun q => ?_)
  refine g_astore C (i := 4) (lv' := [(4, .ref q), (0, .ref (za Z a0)), (1, .int a1), (2, .int a2), (3, .ref (za Z a3))]) (dk kL_dot 9 rfl) (by decide) rfl ?_
  refine g_iconst C (v := 1) (by decide) (dk kL_dot 10 rfl) ?_
  exact g_iret C E rfl rfl (by decide) (by decide) (dk kL_dot 11 rfl)

set_option maxRecDepth 100000 in
set_option maxHeartbeats 4000000 in
theorem ctx2_L_dot {l : Launch} {Z : ZZ} {μ : Mm} {a0 : Nat} {a1 : Int32} {a2 : Int32} {a3 : Nat} {μ9 : Mm} (k0 : (zk Z a0).1 = 5) (k3 : (zk Z a3).1 = 12) (hl : l.stackTraces = false) (h : fx_X7_dot (zk Z) μ a0 a1 a2 = some (2, μ9)) : CtW l Z yL_dot cL_dot 5 (some .int) [(0, 10, 13, 28), (0, 10, 17, 13)] 8 1 6 [.ref (za Z a0), .int a1, .int a2, .ref (za Z a3)] μ (some (.int 2)) Z μ9 := by
  refine ctw_of rfl rfl (Nat.le_of_ble_eq_true rfl) (fun X C E htab => ?_)
  show G Z X 5 0 0 0 [(0, .ref (za Z a0)), (1, .int a1), (2, .int a2), (3, .ref (za Z a3))] [] μ
  refine g_aload_n C (i := 3) 3 rfl rfl (dk kL_dot 0 rfl) ?_
  refine g_iconst C (v := 0) (by decide) (dk kL_dot 1 rfl) ?_
  refine g_aload_n C (i := 0) 0 rfl rfl (dk kL_dot 2 rfl) ?_
  refine g_iload_n C (i := 1) 1 rfl rfl (dk kL_dot 3 rfl) ?_
  refine g_iload_n C (i := 2) 2 rfl rfl (dk kL_dot 4 rfl) ?_
  refine gx_catchV (E := "java/lang/IllegalArgumentException") C E.2 (rest := [.int 0, .ref (za Z a3)]) 2 (by have q := ctx_X7_dot k0 hl h (by decide); exact q) wd_4_130 mm_X7_dot ⟨rfl, by decide, by decide, by decide⟩ rfl (by decide) k0 (by decide) rfl rfl (Nat.le_of_ble_eq_true rfl) (by decide) (dk kL_dot 5 rfl) htab [⟨0, 10, 13, 28⟩] [] ⟨0, 10, 17, 13⟩ rfl (fun z hz => by rcases List.mem_cons.mp hz with rfl | hz; exact ⟨by decide, "java/lang/IndexOutOfBoundsException", wd_4_51, List.mem_of_getElem? (i := 0) rfl⟩; cases hz) (by decide) (by decide) wd_4_22 (List.mem_of_getElem? (i := 1) rfl) (fun q => ?_)
  refine g_astore C (i := 4) (lv' := [(4, .ref q), (0, .ref (za Z a0)), (1, .int a1), (2, .int a2), (3, .ref (za Z a3))]) (dk kL_dot 12 rfl) (by decide) rfl ?_
  refine g_iconst C (v := 2) (by decide) (dk kL_dot 13 rfl) ?_
  exact g_iret C E rfl rfl (by decide) (by decide) (dk kL_dot 14 rfl)

def qL_endRent : List (Nat × Instr × Nat) := [(0, .aload_n 2, 1), (1, .iconst 0, 1), (2, .aload_n 0, 1), (3, .iload_n 1, 1), (4, .invokevirtual 43, 3), (7, .i2l, 1), (8, .lastore, 1), (9, .goto 9, 3), (12, .astore_n 3, 1), (13, .iconst 1, 1), (14, .ireturn, 1), (15, .astore_n 3, 1), (16, .iconst 2, 1), (17, .ireturn, 1), (18, .iconst 0, 1), (19, .ireturn, 1)]
theorem kL_endRent : ∀ q ∈ qL_endRent, decode cL_endRent q.1 = .ok q.2 := by decide +kernel
def f_L_endRent (K : Nat → Nat × Nat) (μ : Mm) (a0 : Nat) (a1 : Int32) (a2 : Nat) : Option (Int32 × Mm) :=
  bd (f_X7_endRent K μ a0 a1) fun q1 => lt1 q1.1 fun x3 => lt1 q1.2 fun μ2 => gd (inb 0 (K a2).2) <| lt1 (sJ μ2 a2 (ix 0) (Int32.toInt64 x3)) fun μ5 => some (0, μ5)
set_option maxRecDepth 100000 in
set_option maxHeartbeats 4000000 in
theorem t_L_endRent {l : Launch} {Z : ZZ} {X : XX} (μ : Mm) (a0 : Nat) (a1 : Int32) (a2 : Nat) (r : Int32) (μ' : Mm) (k0 : (zk Z a0).1 = 5) (k2 : (zk Z a2).1 = 12) (h : f_L_endRent (zk Z) μ a0 a1 a2 = some (r, μ')) (C : Cx l Z false X cL_endRent RL 4 (some .int)) (E : Ex Z X 5 0 0 (some (.int r)) Z μ') : G Z X 4 0 0 0 [(0, .ref (za Z a0)), (1, .int a1), (2, .ref (za Z a2))] [] μ := by
  unfold f_L_endRent at h
  refine g_aload_n C (i := 2) 2 rfl rfl (dk kL_endRent 0 rfl) ?_
  refine g_iconst C (v := 0) (by decide) (dk kL_endRent 1 rfl) ?_
  refine g_aload_n C (i := 0) 0 rfl rfl (dk kL_endRent 2 rfl) ?_
  refine g_iload_n C (i := 1) 1 rfl rfl (dk kL_endRent 3 rfl) ?_
  obtain ⟨q1, eq1, h⟩ := bd_inv h
  obtain ⟨x3, ex3, h⟩ := lt_inv h
  obtain ⟨μ2, eμ2, h⟩ := lt_inv h
  rw [show q1 = (x3, μ2) from by rw [ex3, eμ2]] at eq1
  refine g_callV C E.2 (rest := [.int 0, .ref (za Z a2)]) 1 (ct_X7_endRent k0 eq1) wd_4_97 mm_X7_endRent ⟨rfl, by decide, by decide, by decide⟩ rfl (by decide) k0 (by decide) rfl rfl (Nat.le_of_ble_eq_true rfl) (by decide) (dk kL_endRent 4 rfl) ?_
  refine g_i2l C (dk kL_endRent 5 rfl) ?_
  obtain ⟨c4, h⟩ := gd_inv h
  obtain ⟨μ5, eμ5, h⟩ := lt_inv h
  refine g_last C k2 c4 eμ5 (dk kL_endRent 6 rfl) ?_
  refine g_goto C (tgt := 18) (dk kL_endRent 7 rfl) (by decide) ?_
  refine g_iconst C (v := 0) (by decide) (dk kL_endRent 14 rfl) ?_
  obtain ⟨h8, h9⟩ := Prod.mk.inj (Option.some.inj h)
  subst h8
  subst h9
  exact g_iret C E rfl rfl (Nat.le_refl 0) (Nat.le_refl 0) (dk kL_endRent 15 rfl)
theorem ct_L_endRent {l : Launch} {Z : ZZ} {μ : Mm} {a0 : Nat} {a1 : Int32} {a2 : Nat} {r : Int32} {μ' : Mm} (k0 : (zk Z a0).1 = 5) (k2 : (zk Z a2).1 = 12) (h : f_L_endRent (zk Z) μ a0 a1 a2 = some (r, μ')) : CtW l Z yL_endRent cL_endRent 4 (some .int) [(0, 9, 12, 28), (0, 9, 15, 22)] 5 0 0 [.ref (za Z a0), .int a1, .ref (za Z a2)] μ (some (.int r)) Z μ' := ctw_of rfl rfl (Nat.le_of_ble_eq_true rfl) (fun X C E _ => t_L_endRent μ a0 a1 a2 r μ' k0 k2 h C E)

set_option maxRecDepth 100000 in
set_option maxHeartbeats 4000000 in
theorem ctx1_L_endRent {l : Launch} {Z : ZZ} {μ : Mm} {a0 : Nat} {a1 : Int32} {a2 : Nat} {μ9 : Mm} (k0 : (zk Z a0).1 = 5) (k2 : (zk Z a2).1 = 12) (hl : l.stackTraces = false) (h : fx_X7_endRent (zk Z) μ a0 a1 = some (1, μ9)) : CtW l Z yL_endRent cL_endRent 4 (some .int) [(0, 9, 12, 28), (0, 9, 15, 22)] 8 1 6 [.ref (za Z a0), .int a1, .ref (za Z a2)] μ (some (.int 1)) Z μ9 := by
  refine ctw_of rfl rfl (Nat.le_of_ble_eq_true rfl) (fun X C E htab => ?_)
  show G Z X 4 0 0 0 [(0, .ref (za Z a0)), (1, .int a1), (2, .ref (za Z a2))] [] μ
  refine g_aload_n C (i := 2) 2 rfl rfl (dk kL_endRent 0 rfl) ?_
  refine g_iconst C (v := 0) (by decide) (dk kL_endRent 1 rfl) ?_
  refine g_aload_n C (i := 0) 0 rfl rfl (dk kL_endRent 2 rfl) ?_
  refine g_iload_n C (i := 1) 1 rfl rfl (dk kL_endRent 3 rfl) ?_
  refine gx_catchV (E := "java/lang/IndexOutOfBoundsException") C E.2 (rest := [.int 0, .ref (za Z a2)]) 1 (by have q := ctx_X7_endRent k0 hl h (by decide); exact q) wd_4_97 mm_X7_endRent ⟨rfl, by decide, by decide, by decide⟩ rfl (by decide) k0 (by decide) rfl rfl (Nat.le_of_ble_eq_true rfl) (by decide) (dk kL_endRent 4 rfl) htab [] [⟨0, 9, 15, 22⟩] ⟨0, 9, 12, 28⟩ rfl (fun z hz => by cases hz) (by decide) (by decide) wd_4_51 (List.mem_of_getElem? (i := 0) rfl) (fun q => ?_)
  refine g_astore_n C (i := 3) (lv' := [(3, .ref q), (0, .ref (za Z a0)), (1, .int a1), (2, .ref (za Z a2))]) (dk kL_endRent 8 rfl) rfl (by decide) rfl ?_
  refine g_iconst C (v := 1) (by decide) (dk kL_endRent 9 rfl) ?_
  exact g_iret C E rfl rfl (by decide) (by decide) (dk kL_endRent 10 rfl)

set_option maxRecDepth 100000 in
set_option maxHeartbeats 4000000 in
theorem ctx3_L_endRent {l : Launch} {Z : ZZ} {μ : Mm} {a0 : Nat} {a1 : Int32} {a2 : Nat} {μ9 : Mm} (k0 : (zk Z a0).1 = 5) (k2 : (zk Z a2).1 = 12) (hl : l.stackTraces = false) (h : fx_X7_endRent (zk Z) μ a0 a1 = some (3, μ9)) : CtW l Z yL_endRent cL_endRent 4 (some .int) [(0, 9, 12, 28), (0, 9, 15, 22)] 8 1 6 [.ref (za Z a0), .int a1, .ref (za Z a2)] μ (some (.int 2)) Z μ9 := by
  refine ctw_of rfl rfl (Nat.le_of_ble_eq_true rfl) (fun X C E htab => ?_)
  show G Z X 4 0 0 0 [(0, .ref (za Z a0)), (1, .int a1), (2, .ref (za Z a2))] [] μ
  refine g_aload_n C (i := 2) 2 rfl rfl (dk kL_endRent 0 rfl) ?_
  refine g_iconst C (v := 0) (by decide) (dk kL_endRent 1 rfl) ?_
  refine g_aload_n C (i := 0) 0 rfl rfl (dk kL_endRent 2 rfl) ?_
  refine g_iload_n C (i := 1) 1 rfl rfl (dk kL_endRent 3 rfl) ?_
  refine gx_catchV (E := "java/lang/IllegalStateException") C E.2 (rest := [.int 0, .ref (za Z a2)]) 1 (by have q := ctx_X7_endRent k0 hl h (by decide); exact q) wd_4_97 mm_X7_endRent ⟨rfl, by decide, by decide, by decide⟩ rfl (by decide) k0 (by decide) rfl rfl (Nat.le_of_ble_eq_true rfl) (by decide) (dk kL_endRent 4 rfl) htab [⟨0, 9, 12, 28⟩] [] ⟨0, 9, 15, 22⟩ rfl (fun z hz => by rcases List.mem_cons.mp hz with rfl | hz; exact ⟨by decide, "java/lang/IndexOutOfBoundsException", wd_4_51, List.mem_of_getElem? (i := 1) rfl⟩; cases hz) (by decide) (by decide) wd_4_41 (List.mem_of_getElem? (i := 2) rfl) (fun q => ?_)
  refine g_astore_n C (i := 3) (lv' := [(3, .ref q), (0, .ref (za Z a0)), (1, .int a1), (2, .ref (za Z a2))]) (dk kL_endRent 11 rfl) rfl (by decide) rfl ?_
  refine g_iconst C (v := 2) (by decide) (dk kL_endRent 12 rfl) ?_
  exact g_iret C E rfl rfl (by decide) (by decide) (dk kL_endRent 13 rfl)

def qL_label : List (Nat × Instr × Nat) := [(0, .aload_n 3, 1), (1, .iconst 0, 1), (2, .aload_n 0, 1), (3, .iload_n 1, 1), (4, .iload_n 2, 1), (5, .invokevirtual 55, 3), (8, .i2l, 1), (9, .lastore, 1), (10, .goto 11, 3), (13, .astore 4, 2), (15, .iconst 1, 1), (16, .ireturn, 1), (17, .astore 4, 2), (19, .iconst 2, 1), (20, .ireturn, 1), (21, .iconst 0, 1), (22, .ireturn, 1)]
theorem kL_label : ∀ q ∈ qL_label, decode cL_label q.1 = .ok q.2 := by decide +kernel
def f_L_label (K : Nat → Nat × Nat) (μ : Mm) (a0 : Nat) (a1 : Int32) (a2 : Int32) (a3 : Nat) : Option (Int32 × Mm) :=
  bd (f_X7_label K μ a0 a1 a2) fun x2 => gd (inb 0 (K a3).2) <| lt1 (sJ μ a3 (ix 0) (Int32.toInt64 x2)) fun μ4 => some (0, μ4)
set_option maxRecDepth 100000 in
set_option maxHeartbeats 4000000 in
theorem t_L_label {l : Launch} {Z : ZZ} {X : XX} (μ : Mm) (a0 : Nat) (a1 : Int32) (a2 : Int32) (a3 : Nat) (r : Int32) (μ' : Mm) (k0 : (zk Z a0).1 = 5) (k3 : (zk Z a3).1 = 12) (h : f_L_label (zk Z) μ a0 a1 a2 a3 = some (r, μ')) (C : Cx l Z false X cL_label RL 5 (some .int)) (E : Ex Z X 4 0 0 (some (.int r)) Z μ') : G Z X 5 0 0 0 [(0, .ref (za Z a0)), (1, .int a1), (2, .int a2), (3, .ref (za Z a3))] [] μ := by
  unfold f_L_label at h
  refine g_aload_n C (i := 3) 3 rfl rfl (dk kL_label 0 rfl) ?_
  refine g_iconst C (v := 0) (by decide) (dk kL_label 1 rfl) ?_
  refine g_aload_n C (i := 0) 0 rfl rfl (dk kL_label 2 rfl) ?_
  refine g_iload_n C (i := 1) 1 rfl rfl (dk kL_label 3 rfl) ?_
  refine g_iload_n C (i := 2) 2 rfl rfl (dk kL_label 4 rfl) ?_
  obtain ⟨x2, eq1, h⟩ := bd_inv h
  refine g_callV C E.2 (rest := [.int 0, .ref (za Z a3)]) 2 (ct_X7_label k0 eq1) wd_4_141 mm_X7_label ⟨rfl, by decide, by decide, by decide⟩ rfl (by decide) k0 (by decide) rfl rfl (Nat.le_of_ble_eq_true rfl) (by decide) (dk kL_label 5 rfl) ?_
  refine g_i2l C (dk kL_label 6 rfl) ?_
  obtain ⟨c3, h⟩ := gd_inv h
  obtain ⟨μ4, eμ4, h⟩ := lt_inv h
  refine g_last C k3 c3 eμ4 (dk kL_label 7 rfl) ?_
  refine g_goto C (tgt := 21) (dk kL_label 8 rfl) (by decide) ?_
  refine g_iconst C (v := 0) (by decide) (dk kL_label 15 rfl) ?_
  obtain ⟨h8, h9⟩ := Prod.mk.inj (Option.some.inj h)
  subst h8
  subst h9
  exact g_iret C E rfl rfl (Nat.le_refl 0) (Nat.le_refl 0) (dk kL_label 16 rfl)
theorem ct_L_label {l : Launch} {Z : ZZ} {μ : Mm} {a0 : Nat} {a1 : Int32} {a2 : Int32} {a3 : Nat} {r : Int32} {μ' : Mm} (k0 : (zk Z a0).1 = 5) (k3 : (zk Z a3).1 = 12) (h : f_L_label (zk Z) μ a0 a1 a2 a3 = some (r, μ')) : CtW l Z yL_label cL_label 5 (some .int) [(0, 10, 13, 28), (0, 10, 17, 13)] 4 0 0 [.ref (za Z a0), .int a1, .int a2, .ref (za Z a3)] μ (some (.int r)) Z μ' := ctw_of rfl rfl (Nat.le_of_ble_eq_true rfl) (fun X C E _ => t_L_label μ a0 a1 a2 a3 r μ' k0 k3 h C E)

set_option maxRecDepth 100000 in
set_option maxHeartbeats 4000000 in
theorem ctx1_L_label {l : Launch} {Z : ZZ} {μ : Mm} {a0 : Nat} {a1 : Int32} {a2 : Int32} {a3 : Nat} {μ9 : Mm} (k0 : (zk Z a0).1 = 5) (k3 : (zk Z a3).1 = 12) (hl : l.stackTraces = false) (h : fx_X7_label (zk Z) μ a0 a1 a2 = some (1, μ9)) : CtW l Z yL_label cL_label 5 (some .int) [(0, 10, 13, 28), (0, 10, 17, 13)] 8 1 6 [.ref (za Z a0), .int a1, .int a2, .ref (za Z a3)] μ (some (.int 1)) Z μ9 := by
  refine ctw_of rfl rfl (Nat.le_of_ble_eq_true rfl) (fun X C E htab => ?_)
  show G Z X 5 0 0 0 [(0, .ref (za Z a0)), (1, .int a1), (2, .int a2), (3, .ref (za Z a3))] [] μ
  refine g_aload_n C (i := 3) 3 rfl rfl (dk kL_label 0 rfl) ?_
  refine g_iconst C (v := 0) (by decide) (dk kL_label 1 rfl) ?_
  refine g_aload_n C (i := 0) 0 rfl rfl (dk kL_label 2 rfl) ?_
  refine g_iload_n C (i := 1) 1 rfl rfl (dk kL_label 3 rfl) ?_
  refine g_iload_n C (i := 2) 2 rfl rfl (dk kL_label 4 rfl) ?_
  refine gx_catchV (E := "java/lang/IndexOutOfBoundsException") C E.2 (rest := [.int 0, .ref (za Z a3)]) 2 (by have q := ctx_X7_label k0 hl h (by decide); exact q) wd_4_141 mm_X7_label ⟨rfl, by decide, by decide, by decide⟩ rfl (by decide) k0 (by decide) rfl rfl (Nat.le_of_ble_eq_true rfl) (by decide) (dk kL_label 5 rfl) htab [] [⟨0, 10, 17, 13⟩] ⟨0, 10, 13, 28⟩ rfl (fun z hz => by cases hz) (by decide) (by decide) wd_4_51 (List.mem_of_getElem? (i := 0) rfl) (fun q => ?_)
  refine g_astore C (i := 4) (lv' := [(4, .ref q), (0, .ref (za Z a0)), (1, .int a1), (2, .int a2), (3, .ref (za Z a3))]) (dk kL_label 9 rfl) (by decide) rfl ?_
  refine g_iconst C (v := 1) (by decide) (dk kL_label 10 rfl) ?_
  exact g_iret C E rfl rfl (by decide) (by decide) (dk kL_label 11 rfl)

set_option maxRecDepth 100000 in
set_option maxHeartbeats 4000000 in
theorem ctx2_L_label {l : Launch} {Z : ZZ} {μ : Mm} {a0 : Nat} {a1 : Int32} {a2 : Int32} {a3 : Nat} {μ9 : Mm} (k0 : (zk Z a0).1 = 5) (k3 : (zk Z a3).1 = 12) (hl : l.stackTraces = false) (h : fx_X7_label (zk Z) μ a0 a1 a2 = some (2, μ9)) : CtW l Z yL_label cL_label 5 (some .int) [(0, 10, 13, 28), (0, 10, 17, 13)] 8 1 6 [.ref (za Z a0), .int a1, .int a2, .ref (za Z a3)] μ (some (.int 2)) Z μ9 := by
  refine ctw_of rfl rfl (Nat.le_of_ble_eq_true rfl) (fun X C E htab => ?_)
  show G Z X 5 0 0 0 [(0, .ref (za Z a0)), (1, .int a1), (2, .int a2), (3, .ref (za Z a3))] [] μ
  refine g_aload_n C (i := 3) 3 rfl rfl (dk kL_label 0 rfl) ?_
  refine g_iconst C (v := 0) (by decide) (dk kL_label 1 rfl) ?_
  refine g_aload_n C (i := 0) 0 rfl rfl (dk kL_label 2 rfl) ?_
  refine g_iload_n C (i := 1) 1 rfl rfl (dk kL_label 3 rfl) ?_
  refine g_iload_n C (i := 2) 2 rfl rfl (dk kL_label 4 rfl) ?_
  refine gx_catchV (E := "java/lang/IllegalArgumentException") C E.2 (rest := [.int 0, .ref (za Z a3)]) 2 (by have q := ctx_X7_label k0 hl h (by decide); exact q) wd_4_141 mm_X7_label ⟨rfl, by decide, by decide, by decide⟩ rfl (by decide) k0 (by decide) rfl rfl (Nat.le_of_ble_eq_true rfl) (by decide) (dk kL_label 5 rfl) htab [⟨0, 10, 13, 28⟩] [] ⟨0, 10, 17, 13⟩ rfl (fun z hz => by rcases List.mem_cons.mp hz with rfl | hz; exact ⟨by decide, "java/lang/IndexOutOfBoundsException", wd_4_51, List.mem_of_getElem? (i := 0) rfl⟩; cases hz) (by decide) (by decide) wd_4_22 (List.mem_of_getElem? (i := 1) rfl) (fun q => ?_)
  refine g_astore C (i := 4) (lv' := [(4, .ref q), (0, .ref (za Z a0)), (1, .int a1), (2, .int a2), (3, .ref (za Z a3))]) (dk kL_label 12 rfl) (by decide) rfl ?_
  refine g_iconst C (v := 2) (by decide) (dk kL_label 13 rfl) ?_
  exact g_iret C E rfl rfl (by decide) (by decide) (dk kL_label 14 rfl)

def qL_price : List (Nat × Instr × Nat) := [(0, .aload 4, 2), (2, .iconst 0, 1), (3, .aload_n 0, 1), (4, .iload_n 1, 1), (5, .iload_n 2, 1), (6, .iload_n 3, 1), (7, .invokevirtual 70, 3), (10, .i2l, 1), (11, .lastore, 1), (12, .goto 11, 3), (15, .astore 5, 2), (17, .iconst 1, 1), (18, .ireturn, 1), (19, .astore 5, 2), (21, .iconst 2, 1), (22, .ireturn, 1), (23, .iconst 0, 1), (24, .ireturn, 1)]
theorem kL_price : ∀ q ∈ qL_price, decode cL_price q.1 = .ok q.2 := by decide +kernel
def f_L_price (K : Nat → Nat × Nat) (μ : Mm) (a0 : Nat) (a1 : Int32) (a2 : Int32) (a3 : Int32) (a4 : Nat) : Option (Int32 × Mm) :=
  bd (f_X7_price K μ a0 a1 a2 a3) fun x2 => gd (inb 0 (K a4).2) <| lt1 (sJ μ a4 (ix 0) (Int32.toInt64 x2)) fun μ4 => some (0, μ4)
set_option maxRecDepth 100000 in
set_option maxHeartbeats 4000000 in
theorem t_L_price {l : Launch} {Z : ZZ} {X : XX} (μ : Mm) (a0 : Nat) (a1 : Int32) (a2 : Int32) (a3 : Int32) (a4 : Nat) (r : Int32) (μ' : Mm) (k0 : (zk Z a0).1 = 5) (k4 : (zk Z a4).1 = 12) (h : f_L_price (zk Z) μ a0 a1 a2 a3 a4 = some (r, μ')) (C : Cx l Z false X cL_price RL 6 (some .int)) (E : Ex Z X 4 0 0 (some (.int r)) Z μ') : G Z X 6 0 0 0 [(0, .ref (za Z a0)), (1, .int a1), (2, .int a2), (3, .int a3), (4, .ref (za Z a4))] [] μ := by
  unfold f_L_price at h
  refine g_aload C (i := 4) 4 rfl (dk kL_price 0 rfl) ?_
  refine g_iconst C (v := 0) (by decide) (dk kL_price 1 rfl) ?_
  refine g_aload_n C (i := 0) 0 rfl rfl (dk kL_price 2 rfl) ?_
  refine g_iload_n C (i := 1) 1 rfl rfl (dk kL_price 3 rfl) ?_
  refine g_iload_n C (i := 2) 2 rfl rfl (dk kL_price 4 rfl) ?_
  refine g_iload_n C (i := 3) 3 rfl rfl (dk kL_price 5 rfl) ?_
  obtain ⟨x2, eq1, h⟩ := bd_inv h
  refine g_callV C E.2 (rest := [.int 0, .ref (za Z a4)]) 3 (ct_X7_price k0 eq1) wd_4_183 mm_X7_price ⟨rfl, by decide, by decide, by decide⟩ rfl (by decide) k0 (by decide) rfl rfl (Nat.le_of_ble_eq_true rfl) (by decide) (dk kL_price 6 rfl) ?_
  refine g_i2l C (dk kL_price 7 rfl) ?_
  obtain ⟨c3, h⟩ := gd_inv h
  obtain ⟨μ4, eμ4, h⟩ := lt_inv h
  refine g_last C k4 c3 eμ4 (dk kL_price 8 rfl) ?_
  refine g_goto C (tgt := 23) (dk kL_price 9 rfl) (by decide) ?_
  refine g_iconst C (v := 0) (by decide) (dk kL_price 16 rfl) ?_
  obtain ⟨h8, h9⟩ := Prod.mk.inj (Option.some.inj h)
  subst h8
  subst h9
  exact g_iret C E rfl rfl (Nat.le_refl 0) (Nat.le_refl 0) (dk kL_price 17 rfl)
theorem ct_L_price {l : Launch} {Z : ZZ} {μ : Mm} {a0 : Nat} {a1 : Int32} {a2 : Int32} {a3 : Int32} {a4 : Nat} {r : Int32} {μ' : Mm} (k0 : (zk Z a0).1 = 5) (k4 : (zk Z a4).1 = 12) (h : f_L_price (zk Z) μ a0 a1 a2 a3 a4 = some (r, μ')) : CtW l Z yL_price cL_price 6 (some .int) [(0, 12, 15, 28), (0, 12, 19, 13)] 4 0 0 [.ref (za Z a0), .int a1, .int a2, .int a3, .ref (za Z a4)] μ (some (.int r)) Z μ' := ctw_of rfl rfl (Nat.le_of_ble_eq_true rfl) (fun X C E _ => t_L_price μ a0 a1 a2 a3 a4 r μ' k0 k4 h C E)

set_option maxRecDepth 100000 in
set_option maxHeartbeats 4000000 in
theorem ctx1_L_price {l : Launch} {Z : ZZ} {μ : Mm} {a0 : Nat} {a1 : Int32} {a2 : Int32} {a3 : Int32} {a4 : Nat} {μ9 : Mm} (k0 : (zk Z a0).1 = 5) (k4 : (zk Z a4).1 = 12) (hl : l.stackTraces = false) (h : fx_X7_price (zk Z) μ a0 a1 a2 a3 = some (1, μ9)) : CtW l Z yL_price cL_price 6 (some .int) [(0, 12, 15, 28), (0, 12, 19, 13)] 8 1 6 [.ref (za Z a0), .int a1, .int a2, .int a3, .ref (za Z a4)] μ (some (.int 1)) Z μ9 := by
  refine ctw_of rfl rfl (Nat.le_of_ble_eq_true rfl) (fun X C E htab => ?_)
  show G Z X 6 0 0 0 [(0, .ref (za Z a0)), (1, .int a1), (2, .int a2), (3, .int a3), (4, .ref (za Z a4))] [] μ
  refine g_aload C (i := 4) 4 rfl (dk kL_price 0 rfl) ?_
  refine g_iconst C (v := 0) (by decide) (dk kL_price 1 rfl) ?_
  refine g_aload_n C (i := 0) 0 rfl rfl (dk kL_price 2 rfl) ?_
  refine g_iload_n C (i := 1) 1 rfl rfl (dk kL_price 3 rfl) ?_
  refine g_iload_n C (i := 2) 2 rfl rfl (dk kL_price 4 rfl) ?_
  refine g_iload_n C (i := 3) 3 rfl rfl (dk kL_price 5 rfl) ?_
  refine gx_catchV (E := "java/lang/IndexOutOfBoundsException") C E.2 (rest := [.int 0, .ref (za Z a4)]) 3 (by have q := ctx_X7_price k0 hl h (by decide); exact q) wd_4_183 mm_X7_price ⟨rfl, by decide, by decide, by decide⟩ rfl (by decide) k0 (by decide) rfl rfl (Nat.le_of_ble_eq_true rfl) (by decide) (dk kL_price 6 rfl) htab [] [⟨0, 12, 19, 13⟩] ⟨0, 12, 15, 28⟩ rfl (fun z hz => by cases hz) (by decide) (by decide) wd_4_51 (List.mem_of_getElem? (i := 0) rfl) (fun q => ?_)
  refine g_astore C (i := 5) (lv' := [(5, .ref q), (0, .ref (za Z a0)), (1, .int a1), (2, .int a2), (3, .int a3), (4, .ref (za Z a4))]) (dk kL_price 10 rfl) (by decide) rfl ?_
  refine g_iconst C (v := 1) (by decide) (dk kL_price 11 rfl) ?_
  exact g_iret C E rfl rfl (by decide) (by decide) (dk kL_price 12 rfl)

set_option maxRecDepth 100000 in
set_option maxHeartbeats 4000000 in
theorem ctx2_L_price {l : Launch} {Z : ZZ} {μ : Mm} {a0 : Nat} {a1 : Int32} {a2 : Int32} {a3 : Int32} {a4 : Nat} {μ9 : Mm} (k0 : (zk Z a0).1 = 5) (k4 : (zk Z a4).1 = 12) (hl : l.stackTraces = false) (h : fx_X7_price (zk Z) μ a0 a1 a2 a3 = some (2, μ9)) : CtW l Z yL_price cL_price 6 (some .int) [(0, 12, 15, 28), (0, 12, 19, 13)] 8 1 6 [.ref (za Z a0), .int a1, .int a2, .int a3, .ref (za Z a4)] μ (some (.int 2)) Z μ9 := by
  refine ctw_of rfl rfl (Nat.le_of_ble_eq_true rfl) (fun X C E htab => ?_)
  show G Z X 6 0 0 0 [(0, .ref (za Z a0)), (1, .int a1), (2, .int a2), (3, .int a3), (4, .ref (za Z a4))] [] μ
  refine g_aload C (i := 4) 4 rfl (dk kL_price 0 rfl) ?_
  refine g_iconst C (v := 0) (by decide) (dk kL_price 1 rfl) ?_
  refine g_aload_n C (i := 0) 0 rfl rfl (dk kL_price 2 rfl) ?_
  refine g_iload_n C (i := 1) 1 rfl rfl (dk kL_price 3 rfl) ?_
  refine g_iload_n C (i := 2) 2 rfl rfl (dk kL_price 4 rfl) ?_
  refine g_iload_n C (i := 3) 3 rfl rfl (dk kL_price 5 rfl) ?_
  refine gx_catchV (E := "java/lang/IllegalArgumentException") C E.2 (rest := [.int 0, .ref (za Z a4)]) 3 (by have q := ctx_X7_price k0 hl h (by decide); exact q) wd_4_183 mm_X7_price ⟨rfl, by decide, by decide, by decide⟩ rfl (by decide) k0 (by decide) rfl rfl (Nat.le_of_ble_eq_true rfl) (by decide) (dk kL_price 6 rfl) htab [⟨0, 12, 15, 28⟩] [] ⟨0, 12, 19, 13⟩ rfl (fun z hz => by rcases List.mem_cons.mp hz with rfl | hz; exact ⟨by decide, "java/lang/IndexOutOfBoundsException", wd_4_51, List.mem_of_getElem? (i := 0) rfl⟩; cases hz) (by decide) (by decide) wd_4_22 (List.mem_of_getElem? (i := 1) rfl) (fun q => ?_)
  refine g_astore C (i := 5) (lv' := [(5, .ref q), (0, .ref (za Z a0)), (1, .int a1), (2, .int a2), (3, .int a3), (4, .ref (za Z a4))]) (dk kL_price 13 rfl) (by decide) rfl ?_
  refine g_iconst C (v := 2) (by decide) (dk kL_price 14 rfl) ?_
  exact g_iret C E rfl rfl (by decide) (by decide) (dk kL_price 15 rfl)

def qL_print : List (Nat × Instr × Nat) := [(0, .aload 4, 2), (2, .iconst 0, 1), (3, .aload_n 0, 1), (4, .iload_n 1, 1), (5, .iload_n 2, 1), (6, .iload_n 3, 1), (7, .invokevirtual 46, 3), (10, .i2l, 1), (11, .lastore, 1), (12, .goto 15, 3), (15, .astore 5, 2), (17, .iconst 1, 1), (18, .ireturn, 1), (19, .astore 5, 2), (21, .iconst 2, 1), (22, .ireturn, 1), (23, .astore 5, 2), (25, .iconst 3, 1), (26, .ireturn, 1), (27, .iconst 0, 1), (28, .ireturn, 1)]
theorem kL_print : ∀ q ∈ qL_print, decode cL_print q.1 = .ok q.2 := by decide +kernel
def f_L_print (K : Nat → Nat × Nat) (μ : Mm) (a0 : Nat) (a1 : Int32) (a2 : Int32) (a3 : Int32) (a4 : Nat) : Option (Int32 × Mm) :=
  bd (f_X7_print K μ a0 a1 a2 a3) fun q1 => lt1 q1.1 fun x3 => lt1 q1.2 fun μ2 => gd (inb 0 (K a4).2) <| lt1 (sJ μ2 a4 (ix 0) (Int32.toInt64 x3)) fun μ5 => some (0, μ5)
set_option maxRecDepth 100000 in
set_option maxHeartbeats 4000000 in
theorem t_L_print {l : Launch} {Z : ZZ} {X : XX} (μ : Mm) (a0 : Nat) (a1 : Int32) (a2 : Int32) (a3 : Int32) (a4 : Nat) (r : Int32) (μ' : Mm) (k0 : (zk Z a0).1 = 5) (k4 : (zk Z a4).1 = 12) (h : f_L_print (zk Z) μ a0 a1 a2 a3 a4 = some (r, μ')) (C : Cx l Z false X cL_print RL 6 (some .int)) (E : Ex Z X 5 0 0 (some (.int r)) Z μ') : G Z X 6 0 0 0 [(0, .ref (za Z a0)), (1, .int a1), (2, .int a2), (3, .int a3), (4, .ref (za Z a4))] [] μ := by
  unfold f_L_print at h
  refine g_aload C (i := 4) 4 rfl (dk kL_print 0 rfl) ?_
  refine g_iconst C (v := 0) (by decide) (dk kL_print 1 rfl) ?_
  refine g_aload_n C (i := 0) 0 rfl rfl (dk kL_print 2 rfl) ?_
  refine g_iload_n C (i := 1) 1 rfl rfl (dk kL_print 3 rfl) ?_
  refine g_iload_n C (i := 2) 2 rfl rfl (dk kL_print 4 rfl) ?_
  refine g_iload_n C (i := 3) 3 rfl rfl (dk kL_print 5 rfl) ?_
  obtain ⟨q1, eq1, h⟩ := bd_inv h
  obtain ⟨x3, ex3, h⟩ := lt_inv h
  obtain ⟨μ2, eμ2, h⟩ := lt_inv h
  rw [show q1 = (x3, μ2) from by rw [ex3, eμ2]] at eq1
  refine g_callV C E.2 (rest := [.int 0, .ref (za Z a4)]) 3 (ct_X7_print k0 eq1) wd_4_112 mm_X7_print ⟨rfl, by decide, by decide, by decide⟩ rfl (by decide) k0 (by decide) rfl rfl (Nat.le_of_ble_eq_true rfl) (by decide) (dk kL_print 6 rfl) ?_
  refine g_i2l C (dk kL_print 7 rfl) ?_
  obtain ⟨c4, h⟩ := gd_inv h
  obtain ⟨μ5, eμ5, h⟩ := lt_inv h
  refine g_last C k4 c4 eμ5 (dk kL_print 8 rfl) ?_
  refine g_goto C (tgt := 27) (dk kL_print 9 rfl) (by decide) ?_
  refine g_iconst C (v := 0) (by decide) (dk kL_print 19 rfl) ?_
  obtain ⟨h8, h9⟩ := Prod.mk.inj (Option.some.inj h)
  subst h8
  subst h9
  exact g_iret C E rfl rfl (Nat.le_refl 0) (Nat.le_refl 0) (dk kL_print 20 rfl)
theorem ct_L_print {l : Launch} {Z : ZZ} {μ : Mm} {a0 : Nat} {a1 : Int32} {a2 : Int32} {a3 : Int32} {a4 : Nat} {r : Int32} {μ' : Mm} (k0 : (zk Z a0).1 = 5) (k4 : (zk Z a4).1 = 12) (h : f_L_print (zk Z) μ a0 a1 a2 a3 a4 = some (r, μ')) : CtW l Z yL_print cL_print 6 (some .int) [(0, 12, 15, 28), (0, 12, 19, 13), (0, 12, 23, 22)] 5 0 0 [.ref (za Z a0), .int a1, .int a2, .int a3, .ref (za Z a4)] μ (some (.int r)) Z μ' := ctw_of rfl rfl (Nat.le_of_ble_eq_true rfl) (fun X C E _ => t_L_print μ a0 a1 a2 a3 a4 r μ' k0 k4 h C E)

set_option maxRecDepth 100000 in
set_option maxHeartbeats 4000000 in
theorem ctx1_L_print {l : Launch} {Z : ZZ} {μ : Mm} {a0 : Nat} {a1 : Int32} {a2 : Int32} {a3 : Int32} {a4 : Nat} {μ9 : Mm} (k0 : (zk Z a0).1 = 5) (k4 : (zk Z a4).1 = 12) (hl : l.stackTraces = false) (h : fx_X7_print (zk Z) μ a0 a1 a2 a3 = some (1, μ9)) : CtW l Z yL_print cL_print 6 (some .int) [(0, 12, 15, 28), (0, 12, 19, 13), (0, 12, 23, 22)] 8 1 6 [.ref (za Z a0), .int a1, .int a2, .int a3, .ref (za Z a4)] μ (some (.int 1)) Z μ9 := by
  refine ctw_of rfl rfl (Nat.le_of_ble_eq_true rfl) (fun X C E htab => ?_)
  show G Z X 6 0 0 0 [(0, .ref (za Z a0)), (1, .int a1), (2, .int a2), (3, .int a3), (4, .ref (za Z a4))] [] μ
  refine g_aload C (i := 4) 4 rfl (dk kL_print 0 rfl) ?_
  refine g_iconst C (v := 0) (by decide) (dk kL_print 1 rfl) ?_
  refine g_aload_n C (i := 0) 0 rfl rfl (dk kL_print 2 rfl) ?_
  refine g_iload_n C (i := 1) 1 rfl rfl (dk kL_print 3 rfl) ?_
  refine g_iload_n C (i := 2) 2 rfl rfl (dk kL_print 4 rfl) ?_
  refine g_iload_n C (i := 3) 3 rfl rfl (dk kL_print 5 rfl) ?_
  refine gx_catchV (E := "java/lang/IndexOutOfBoundsException") C E.2 (rest := [.int 0, .ref (za Z a4)]) 3 (by have q := ctx_X7_print k0 hl h (by decide); exact q) wd_4_112 mm_X7_print ⟨rfl, by decide, by decide, by decide⟩ rfl (by decide) k0 (by decide) rfl rfl (Nat.le_of_ble_eq_true rfl) (by decide) (dk kL_print 6 rfl) htab [] [⟨0, 12, 19, 13⟩, ⟨0, 12, 23, 22⟩] ⟨0, 12, 15, 28⟩ rfl (fun z hz => by cases hz) (by decide) (by decide) wd_4_51 (List.mem_of_getElem? (i := 0) rfl) (fun q => ?_)
  refine g_astore C (i := 5) (lv' := [(5, .ref q), (0, .ref (za Z a0)), (1, .int a1), (2, .int a2), (3, .int a3), (4, .ref (za Z a4))]) (dk kL_print 10 rfl) (by decide) rfl ?_
  refine g_iconst C (v := 1) (by decide) (dk kL_print 11 rfl) ?_
  exact g_iret C E rfl rfl (by decide) (by decide) (dk kL_print 12 rfl)

set_option maxRecDepth 100000 in
set_option maxHeartbeats 4000000 in
theorem ctx2_L_print {l : Launch} {Z : ZZ} {μ : Mm} {a0 : Nat} {a1 : Int32} {a2 : Int32} {a3 : Int32} {a4 : Nat} {μ9 : Mm} (k0 : (zk Z a0).1 = 5) (k4 : (zk Z a4).1 = 12) (hl : l.stackTraces = false) (h : fx_X7_print (zk Z) μ a0 a1 a2 a3 = some (2, μ9)) : CtW l Z yL_print cL_print 6 (some .int) [(0, 12, 15, 28), (0, 12, 19, 13), (0, 12, 23, 22)] 8 1 6 [.ref (za Z a0), .int a1, .int a2, .int a3, .ref (za Z a4)] μ (some (.int 2)) Z μ9 := by
  refine ctw_of rfl rfl (Nat.le_of_ble_eq_true rfl) (fun X C E htab => ?_)
  show G Z X 6 0 0 0 [(0, .ref (za Z a0)), (1, .int a1), (2, .int a2), (3, .int a3), (4, .ref (za Z a4))] [] μ
  refine g_aload C (i := 4) 4 rfl (dk kL_print 0 rfl) ?_
  refine g_iconst C (v := 0) (by decide) (dk kL_print 1 rfl) ?_
  refine g_aload_n C (i := 0) 0 rfl rfl (dk kL_print 2 rfl) ?_
  refine g_iload_n C (i := 1) 1 rfl rfl (dk kL_print 3 rfl) ?_
  refine g_iload_n C (i := 2) 2 rfl rfl (dk kL_print 4 rfl) ?_
  refine g_iload_n C (i := 3) 3 rfl rfl (dk kL_print 5 rfl) ?_
  refine gx_catchV (E := "java/lang/IllegalArgumentException") C E.2 (rest := [.int 0, .ref (za Z a4)]) 3 (by have q := ctx_X7_print k0 hl h (by decide); exact q) wd_4_112 mm_X7_print ⟨rfl, by decide, by decide, by decide⟩ rfl (by decide) k0 (by decide) rfl rfl (Nat.le_of_ble_eq_true rfl) (by decide) (dk kL_print 6 rfl) htab [⟨0, 12, 15, 28⟩] [⟨0, 12, 23, 22⟩] ⟨0, 12, 19, 13⟩ rfl (fun z hz => by rcases List.mem_cons.mp hz with rfl | hz; exact ⟨by decide, "java/lang/IndexOutOfBoundsException", wd_4_51, List.mem_of_getElem? (i := 0) rfl⟩; cases hz) (by decide) (by decide) wd_4_22 (List.mem_of_getElem? (i := 1) rfl) (fun q => ?_)
  refine g_astore C (i := 5) (lv' := [(5, .ref q), (0, .ref (za Z a0)), (1, .int a1), (2, .int a2), (3, .int a3), (4, .ref (za Z a4))]) (dk kL_print 13 rfl) (by decide) rfl ?_
  refine g_iconst C (v := 2) (by decide) (dk kL_print 14 rfl) ?_
  exact g_iret C E rfl rfl (by decide) (by decide) (dk kL_print 15 rfl)

set_option maxRecDepth 100000 in
set_option maxHeartbeats 4000000 in
theorem ctx3_L_print {l : Launch} {Z : ZZ} {μ : Mm} {a0 : Nat} {a1 : Int32} {a2 : Int32} {a3 : Int32} {a4 : Nat} {μ9 : Mm} (k0 : (zk Z a0).1 = 5) (k4 : (zk Z a4).1 = 12) (hl : l.stackTraces = false) (h : fx_X7_print (zk Z) μ a0 a1 a2 a3 = some (3, μ9)) : CtW l Z yL_print cL_print 6 (some .int) [(0, 12, 15, 28), (0, 12, 19, 13), (0, 12, 23, 22)] 8 1 6 [.ref (za Z a0), .int a1, .int a2, .int a3, .ref (za Z a4)] μ (some (.int 3)) Z μ9 := by
  refine ctw_of rfl rfl (Nat.le_of_ble_eq_true rfl) (fun X C E htab => ?_)
  show G Z X 6 0 0 0 [(0, .ref (za Z a0)), (1, .int a1), (2, .int a2), (3, .int a3), (4, .ref (za Z a4))] [] μ
  refine g_aload C (i := 4) 4 rfl (dk kL_print 0 rfl) ?_
  refine g_iconst C (v := 0) (by decide) (dk kL_print 1 rfl) ?_
  refine g_aload_n C (i := 0) 0 rfl rfl (dk kL_print 2 rfl) ?_
  refine g_iload_n C (i := 1) 1 rfl rfl (dk kL_print 3 rfl) ?_
  refine g_iload_n C (i := 2) 2 rfl rfl (dk kL_print 4 rfl) ?_
  refine g_iload_n C (i := 3) 3 rfl rfl (dk kL_print 5 rfl) ?_
  refine gx_catchV (E := "java/lang/IllegalStateException") C E.2 (rest := [.int 0, .ref (za Z a4)]) 3 (by have q := ctx_X7_print k0 hl h (by decide); exact q) wd_4_112 mm_X7_print ⟨rfl, by decide, by decide, by decide⟩ rfl (by decide) k0 (by decide) rfl rfl (Nat.le_of_ble_eq_true rfl) (by decide) (dk kL_print 6 rfl) htab [⟨0, 12, 15, 28⟩, ⟨0, 12, 19, 13⟩] [] ⟨0, 12, 23, 22⟩ rfl (fun z hz => by rcases List.mem_cons.mp hz with rfl | hz; exact ⟨by decide, "java/lang/IndexOutOfBoundsException", wd_4_51, List.mem_of_getElem? (i := 1) rfl⟩; rcases List.mem_cons.mp hz with rfl | hz; exact ⟨by decide, "java/lang/IllegalArgumentException", wd_4_22, List.mem_of_getElem? (i := 2) rfl⟩; cases hz) (by decide) (by decide) wd_4_41 (List.mem_of_getElem? (i := 2) rfl) (fun q => ?_)
  refine g_astore C (i := 5) (lv' := [(5, .ref q), (0, .ref (za Z a0)), (1, .int a1), (2, .int a2), (3, .int a3), (4, .ref (za Z a4))]) (dk kL_print 16 rfl) (by decide) rfl ?_
  refine g_iconst C (v := 3) (by decide) (dk kL_print 17 rfl) ?_
  exact g_iret C E rfl rfl (by decide) (by decide) (dk kL_print 18 rfl)

def qL_printBest : List (Nat × Instr × Nat) := [(0, .aload_n 3, 1), (1, .iconst 0, 1), (2, .aload_n 0, 1), (3, .iload_n 1, 1), (4, .iload_n 2, 1), (5, .invokevirtual 49, 3), (8, .i2l, 1), (9, .lastore, 1), (10, .goto 11, 3), (13, .astore 4, 2), (15, .iconst 1, 1), (16, .ireturn, 1), (17, .astore 4, 2), (19, .iconst 2, 1), (20, .ireturn, 1), (21, .iconst 0, 1), (22, .ireturn, 1)]
theorem kL_printBest : ∀ q ∈ qL_printBest, decode cL_printBest q.1 = .ok q.2 := by decide +kernel
def f_L_printBest (K : Nat → Nat × Nat) (μ : Mm) (a0 : Nat) (a1 : Int32) (a2 : Int32) (a3 : Nat) : Option (Int32 × Mm) :=
  bd (f_X7_printBest K μ a0 a1 a2) fun q1 => lt1 q1.1 fun x3 => lt1 q1.2 fun μ2 => gd (inb 0 (K a3).2) <| lt1 (sJ μ2 a3 (ix 0) (Int32.toInt64 x3)) fun μ5 => some (0, μ5)
set_option maxRecDepth 100000 in
set_option maxHeartbeats 4000000 in
theorem t_L_printBest {l : Launch} {Z : ZZ} {X : XX} (μ : Mm) (a0 : Nat) (a1 : Int32) (a2 : Int32) (a3 : Nat) (r : Int32) (μ' : Mm) (k0 : (zk Z a0).1 = 5) (k3 : (zk Z a3).1 = 12) (h : f_L_printBest (zk Z) μ a0 a1 a2 a3 = some (r, μ')) (C : Cx l Z false X cL_printBest RL 5 (some .int)) (E : Ex Z X 6 0 0 (some (.int r)) Z μ') : G Z X 5 0 0 0 [(0, .ref (za Z a0)), (1, .int a1), (2, .int a2), (3, .ref (za Z a3))] [] μ := by
  unfold f_L_printBest at h
  refine g_aload_n C (i := 3) 3 rfl rfl (dk kL_printBest 0 rfl) ?_
  refine g_iconst C (v := 0) (by decide) (dk kL_printBest 1 rfl) ?_
  refine g_aload_n C (i := 0) 0 rfl rfl (dk kL_printBest 2 rfl) ?_
  refine g_iload_n C (i := 1) 1 rfl rfl (dk kL_printBest 3 rfl) ?_
  refine g_iload_n C (i := 2) 2 rfl rfl (dk kL_printBest 4 rfl) ?_
  obtain ⟨q1, eq1, h⟩ := bd_inv h
  obtain ⟨x3, ex3, h⟩ := lt_inv h
  obtain ⟨μ2, eμ2, h⟩ := lt_inv h
  rw [show q1 = (x3, μ2) from by rw [ex3, eμ2]] at eq1
  refine g_callV C E.2 (rest := [.int 0, .ref (za Z a3)]) 2 (ct_X7_printBest k0 eq1) wd_4_121 mm_X7_printBest ⟨rfl, by decide, by decide, by decide⟩ rfl (by decide) k0 (by decide) rfl rfl (Nat.le_of_ble_eq_true rfl) (by decide) (dk kL_printBest 5 rfl) ?_
  refine g_i2l C (dk kL_printBest 6 rfl) ?_
  obtain ⟨c4, h⟩ := gd_inv h
  obtain ⟨μ5, eμ5, h⟩ := lt_inv h
  refine g_last C k3 c4 eμ5 (dk kL_printBest 7 rfl) ?_
  refine g_goto C (tgt := 21) (dk kL_printBest 8 rfl) (by decide) ?_
  refine g_iconst C (v := 0) (by decide) (dk kL_printBest 15 rfl) ?_
  obtain ⟨h8, h9⟩ := Prod.mk.inj (Option.some.inj h)
  subst h8
  subst h9
  exact g_iret C E rfl rfl (Nat.le_refl 0) (Nat.le_refl 0) (dk kL_printBest 16 rfl)
theorem ct_L_printBest {l : Launch} {Z : ZZ} {μ : Mm} {a0 : Nat} {a1 : Int32} {a2 : Int32} {a3 : Nat} {r : Int32} {μ' : Mm} (k0 : (zk Z a0).1 = 5) (k3 : (zk Z a3).1 = 12) (h : f_L_printBest (zk Z) μ a0 a1 a2 a3 = some (r, μ')) : CtW l Z yL_printBest cL_printBest 5 (some .int) [(0, 10, 13, 28), (0, 10, 17, 22)] 6 0 0 [.ref (za Z a0), .int a1, .int a2, .ref (za Z a3)] μ (some (.int r)) Z μ' := ctw_of rfl rfl (Nat.le_of_ble_eq_true rfl) (fun X C E _ => t_L_printBest μ a0 a1 a2 a3 r μ' k0 k3 h C E)

set_option maxRecDepth 100000 in
set_option maxHeartbeats 4000000 in
theorem ctx1_L_printBest {l : Launch} {Z : ZZ} {μ : Mm} {a0 : Nat} {a1 : Int32} {a2 : Int32} {a3 : Nat} {μ9 : Mm} (k0 : (zk Z a0).1 = 5) (k3 : (zk Z a3).1 = 12) (hl : l.stackTraces = false) (h : fx_X7_printBest (zk Z) μ a0 a1 a2 = some (1, μ9)) : CtW l Z yL_printBest cL_printBest 5 (some .int) [(0, 10, 13, 28), (0, 10, 17, 22)] 8 1 6 [.ref (za Z a0), .int a1, .int a2, .ref (za Z a3)] μ (some (.int 1)) Z μ9 := by
  refine ctw_of rfl rfl (Nat.le_of_ble_eq_true rfl) (fun X C E htab => ?_)
  show G Z X 5 0 0 0 [(0, .ref (za Z a0)), (1, .int a1), (2, .int a2), (3, .ref (za Z a3))] [] μ
  refine g_aload_n C (i := 3) 3 rfl rfl (dk kL_printBest 0 rfl) ?_
  refine g_iconst C (v := 0) (by decide) (dk kL_printBest 1 rfl) ?_
  refine g_aload_n C (i := 0) 0 rfl rfl (dk kL_printBest 2 rfl) ?_
  refine g_iload_n C (i := 1) 1 rfl rfl (dk kL_printBest 3 rfl) ?_
  refine g_iload_n C (i := 2) 2 rfl rfl (dk kL_printBest 4 rfl) ?_
  refine gx_catchV (E := "java/lang/IndexOutOfBoundsException") C E.2 (rest := [.int 0, .ref (za Z a3)]) 2 (by have q := ctx_X7_printBest k0 hl h (by decide); exact q) wd_4_121 mm_X7_printBest ⟨rfl, by decide, by decide, by decide⟩ rfl (by decide) k0 (by decide) rfl rfl (Nat.le_of_ble_eq_true rfl) (by decide) (dk kL_printBest 5 rfl) htab [] [⟨0, 10, 17, 22⟩] ⟨0, 10, 13, 28⟩ rfl (fun z hz => by cases hz) (by decide) (by decide) wd_4_51 (List.mem_of_getElem? (i := 0) rfl) (fun q => ?_)
  refine g_astore C (i := 4) (lv' := [(4, .ref q), (0, .ref (za Z a0)), (1, .int a1), (2, .int a2), (3, .ref (za Z a3))]) (dk kL_printBest 9 rfl) (by decide) rfl ?_
  refine g_iconst C (v := 1) (by decide) (dk kL_printBest 10 rfl) ?_
  exact g_iret C E rfl rfl (by decide) (by decide) (dk kL_printBest 11 rfl)

set_option maxRecDepth 100000 in
set_option maxHeartbeats 4000000 in
theorem ctx3_L_printBest {l : Launch} {Z : ZZ} {μ : Mm} {a0 : Nat} {a1 : Int32} {a2 : Int32} {a3 : Nat} {μ9 : Mm} (k0 : (zk Z a0).1 = 5) (k3 : (zk Z a3).1 = 12) (hl : l.stackTraces = false) (h : fx_X7_printBest (zk Z) μ a0 a1 a2 = some (3, μ9)) : CtW l Z yL_printBest cL_printBest 5 (some .int) [(0, 10, 13, 28), (0, 10, 17, 22)] 8 1 6 [.ref (za Z a0), .int a1, .int a2, .ref (za Z a3)] μ (some (.int 2)) Z μ9 := by
  refine ctw_of rfl rfl (Nat.le_of_ble_eq_true rfl) (fun X C E htab => ?_)
  show G Z X 5 0 0 0 [(0, .ref (za Z a0)), (1, .int a1), (2, .int a2), (3, .ref (za Z a3))] [] μ
  refine g_aload_n C (i := 3) 3 rfl rfl (dk kL_printBest 0 rfl) ?_
  refine g_iconst C (v := 0) (by decide) (dk kL_printBest 1 rfl) ?_
  refine g_aload_n C (i := 0) 0 rfl rfl (dk kL_printBest 2 rfl) ?_
  refine g_iload_n C (i := 1) 1 rfl rfl (dk kL_printBest 3 rfl) ?_
  refine g_iload_n C (i := 2) 2 rfl rfl (dk kL_printBest 4 rfl) ?_
  refine gx_catchV (E := "java/lang/IllegalStateException") C E.2 (rest := [.int 0, .ref (za Z a3)]) 2 (by have q := ctx_X7_printBest k0 hl h (by decide); exact q) wd_4_121 mm_X7_printBest ⟨rfl, by decide, by decide, by decide⟩ rfl (by decide) k0 (by decide) rfl rfl (Nat.le_of_ble_eq_true rfl) (by decide) (dk kL_printBest 5 rfl) htab [⟨0, 10, 13, 28⟩] [] ⟨0, 10, 17, 22⟩ rfl (fun z hz => by rcases List.mem_cons.mp hz with rfl | hz; exact ⟨by decide, "java/lang/IndexOutOfBoundsException", wd_4_51, List.mem_of_getElem? (i := 1) rfl⟩; cases hz) (by decide) (by decide) wd_4_41 (List.mem_of_getElem? (i := 2) rfl) (fun q => ?_)
  refine g_astore C (i := 4) (lv' := [(4, .ref q), (0, .ref (za Z a0)), (1, .int a1), (2, .int a2), (3, .ref (za Z a3))]) (dk kL_printBest 12 rfl) (by decide) rfl ?_
  refine g_iconst C (v := 2) (by decide) (dk kL_printBest 13 rfl) ?_
  exact g_iret C E rfl rfl (by decide) (by decide) (dk kL_printBest 14 rfl)

def qL_readableFor : List (Nat × Instr × Nat) := [(0, .aload 4, 2), (2, .iconst 0, 1), (3, .aload_n 0, 1), (4, .iload_n 1, 1), (5, .iload_n 2, 1), (6, .iload_n 3, 1), (7, .invokevirtual 79, 3), (10, .i2l, 1), (11, .lastore, 1), (12, .goto 11, 3), (15, .astore 5, 2), (17, .iconst 1, 1), (18, .ireturn, 1), (19, .astore 5, 2), (21, .iconst 2, 1), (22, .ireturn, 1), (23, .iconst 0, 1), (24, .ireturn, 1)]
theorem kL_readableFor : ∀ q ∈ qL_readableFor, decode cL_readableFor q.1 = .ok q.2 := by decide +kernel
def f_L_readableFor (K : Nat → Nat × Nat) (μ : Mm) (a0 : Nat) (a1 : Int32) (a2 : Int32) (a3 : Int32) (a4 : Nat) : Option (Int32 × Mm) :=
  bd (f_X7_readableFor K μ a0 a1 a2 a3) fun q1 => lt1 q1.1 fun x3 => lt1 q1.2 fun μ2 => gd (inb 0 (K a4).2) <| lt1 (sJ μ2 a4 (ix 0) (Int32.toInt64 x3)) fun μ5 => some (0, μ5)
set_option maxRecDepth 100000 in
set_option maxHeartbeats 4000000 in
theorem t_L_readableFor {l : Launch} {Z : ZZ} {X : XX} (μ : Mm) (a0 : Nat) (a1 : Int32) (a2 : Int32) (a3 : Int32) (a4 : Nat) (r : Int32) (μ' : Mm) (k0 : (zk Z a0).1 = 5) (k4 : (zk Z a4).1 = 12) (h : f_L_readableFor (zk Z) μ a0 a1 a2 a3 a4 = some (r, μ')) (C : Cx l Z false X cL_readableFor RL 6 (some .int)) (E : Ex Z X 4 0 0 (some (.int r)) Z μ') : G Z X 6 0 0 0 [(0, .ref (za Z a0)), (1, .int a1), (2, .int a2), (3, .int a3), (4, .ref (za Z a4))] [] μ := by
  unfold f_L_readableFor at h
  refine g_aload C (i := 4) 4 rfl (dk kL_readableFor 0 rfl) ?_
  refine g_iconst C (v := 0) (by decide) (dk kL_readableFor 1 rfl) ?_
  refine g_aload_n C (i := 0) 0 rfl rfl (dk kL_readableFor 2 rfl) ?_
  refine g_iload_n C (i := 1) 1 rfl rfl (dk kL_readableFor 3 rfl) ?_
  refine g_iload_n C (i := 2) 2 rfl rfl (dk kL_readableFor 4 rfl) ?_
  refine g_iload_n C (i := 3) 3 rfl rfl (dk kL_readableFor 5 rfl) ?_
  obtain ⟨q1, eq1, h⟩ := bd_inv h
  obtain ⟨x3, ex3, h⟩ := lt_inv h
  obtain ⟨μ2, eμ2, h⟩ := lt_inv h
  rw [show q1 = (x3, μ2) from by rw [ex3, eμ2]] at eq1
  refine g_callV C E.2 (rest := [.int 0, .ref (za Z a4)]) 3 (ct_X7_readableFor k0 eq1) wd_4_207 mm_X7_readableFor ⟨rfl, by decide, by decide, by decide⟩ rfl (by decide) k0 (by decide) rfl rfl (Nat.le_of_ble_eq_true rfl) (by decide) (dk kL_readableFor 6 rfl) ?_
  refine g_i2l C (dk kL_readableFor 7 rfl) ?_
  obtain ⟨c4, h⟩ := gd_inv h
  obtain ⟨μ5, eμ5, h⟩ := lt_inv h
  refine g_last C k4 c4 eμ5 (dk kL_readableFor 8 rfl) ?_
  refine g_goto C (tgt := 23) (dk kL_readableFor 9 rfl) (by decide) ?_
  refine g_iconst C (v := 0) (by decide) (dk kL_readableFor 16 rfl) ?_
  obtain ⟨h8, h9⟩ := Prod.mk.inj (Option.some.inj h)
  subst h8
  subst h9
  exact g_iret C E rfl rfl (Nat.le_refl 0) (Nat.le_refl 0) (dk kL_readableFor 17 rfl)
theorem ct_L_readableFor {l : Launch} {Z : ZZ} {μ : Mm} {a0 : Nat} {a1 : Int32} {a2 : Int32} {a3 : Int32} {a4 : Nat} {r : Int32} {μ' : Mm} (k0 : (zk Z a0).1 = 5) (k4 : (zk Z a4).1 = 12) (h : f_L_readableFor (zk Z) μ a0 a1 a2 a3 a4 = some (r, μ')) : CtW l Z yL_readableFor cL_readableFor 6 (some .int) [(0, 12, 15, 28), (0, 12, 19, 13)] 4 0 0 [.ref (za Z a0), .int a1, .int a2, .int a3, .ref (za Z a4)] μ (some (.int r)) Z μ' := ctw_of rfl rfl (Nat.le_of_ble_eq_true rfl) (fun X C E _ => t_L_readableFor μ a0 a1 a2 a3 a4 r μ' k0 k4 h C E)

set_option maxRecDepth 100000 in
set_option maxHeartbeats 4000000 in
theorem ctx1_L_readableFor {l : Launch} {Z : ZZ} {μ : Mm} {a0 : Nat} {a1 : Int32} {a2 : Int32} {a3 : Int32} {a4 : Nat} {μ9 : Mm} (k0 : (zk Z a0).1 = 5) (k4 : (zk Z a4).1 = 12) (hl : l.stackTraces = false) (h : fx_X7_readableFor (zk Z) μ a0 a1 a2 a3 = some (1, μ9)) : CtW l Z yL_readableFor cL_readableFor 6 (some .int) [(0, 12, 15, 28), (0, 12, 19, 13)] 8 1 6 [.ref (za Z a0), .int a1, .int a2, .int a3, .ref (za Z a4)] μ (some (.int 1)) Z μ9 := by
  refine ctw_of rfl rfl (Nat.le_of_ble_eq_true rfl) (fun X C E htab => ?_)
  show G Z X 6 0 0 0 [(0, .ref (za Z a0)), (1, .int a1), (2, .int a2), (3, .int a3), (4, .ref (za Z a4))] [] μ
  refine g_aload C (i := 4) 4 rfl (dk kL_readableFor 0 rfl) ?_
  refine g_iconst C (v := 0) (by decide) (dk kL_readableFor 1 rfl) ?_
  refine g_aload_n C (i := 0) 0 rfl rfl (dk kL_readableFor 2 rfl) ?_
  refine g_iload_n C (i := 1) 1 rfl rfl (dk kL_readableFor 3 rfl) ?_
  refine g_iload_n C (i := 2) 2 rfl rfl (dk kL_readableFor 4 rfl) ?_
  refine g_iload_n C (i := 3) 3 rfl rfl (dk kL_readableFor 5 rfl) ?_
  refine gx_catchV (E := "java/lang/IndexOutOfBoundsException") C E.2 (rest := [.int 0, .ref (za Z a4)]) 3 (by have q := ctx_X7_readableFor k0 hl h (by decide); exact q) wd_4_207 mm_X7_readableFor ⟨rfl, by decide, by decide, by decide⟩ rfl (by decide) k0 (by decide) rfl rfl (Nat.le_of_ble_eq_true rfl) (by decide) (dk kL_readableFor 6 rfl) htab [] [⟨0, 12, 19, 13⟩] ⟨0, 12, 15, 28⟩ rfl (fun z hz => by cases hz) (by decide) (by decide) wd_4_51 (List.mem_of_getElem? (i := 0) rfl) (fun q => ?_)
  refine g_astore C (i := 5) (lv' := [(5, .ref q), (0, .ref (za Z a0)), (1, .int a1), (2, .int a2), (3, .int a3), (4, .ref (za Z a4))]) (dk kL_readableFor 10 rfl) (by decide) rfl ?_
  refine g_iconst C (v := 1) (by decide) (dk kL_readableFor 11 rfl) ?_
  exact g_iret C E rfl rfl (by decide) (by decide) (dk kL_readableFor 12 rfl)

set_option maxRecDepth 100000 in
set_option maxHeartbeats 4000000 in
theorem ctx2_L_readableFor {l : Launch} {Z : ZZ} {μ : Mm} {a0 : Nat} {a1 : Int32} {a2 : Int32} {a3 : Int32} {a4 : Nat} {μ9 : Mm} (k0 : (zk Z a0).1 = 5) (k4 : (zk Z a4).1 = 12) (hl : l.stackTraces = false) (h : fx_X7_readableFor (zk Z) μ a0 a1 a2 a3 = some (2, μ9)) : CtW l Z yL_readableFor cL_readableFor 6 (some .int) [(0, 12, 15, 28), (0, 12, 19, 13)] 8 1 6 [.ref (za Z a0), .int a1, .int a2, .int a3, .ref (za Z a4)] μ (some (.int 2)) Z μ9 := by
  refine ctw_of rfl rfl (Nat.le_of_ble_eq_true rfl) (fun X C E htab => ?_)
  show G Z X 6 0 0 0 [(0, .ref (za Z a0)), (1, .int a1), (2, .int a2), (3, .int a3), (4, .ref (za Z a4))] [] μ
  refine g_aload C (i := 4) 4 rfl (dk kL_readableFor 0 rfl) ?_
  refine g_iconst C (v := 0) (by decide) (dk kL_readableFor 1 rfl) ?_
  refine g_aload_n C (i := 0) 0 rfl rfl (dk kL_readableFor 2 rfl) ?_
  refine g_iload_n C (i := 1) 1 rfl rfl (dk kL_readableFor 3 rfl) ?_
  refine g_iload_n C (i := 2) 2 rfl rfl (dk kL_readableFor 4 rfl) ?_
  refine g_iload_n C (i := 3) 3 rfl rfl (dk kL_readableFor 5 rfl) ?_
  refine gx_catchV (E := "java/lang/IllegalArgumentException") C E.2 (rest := [.int 0, .ref (za Z a4)]) 3 (by have q := ctx_X7_readableFor k0 hl h (by decide); exact q) wd_4_207 mm_X7_readableFor ⟨rfl, by decide, by decide, by decide⟩ rfl (by decide) k0 (by decide) rfl rfl (Nat.le_of_ble_eq_true rfl) (by decide) (dk kL_readableFor 6 rfl) htab [⟨0, 12, 15, 28⟩] [] ⟨0, 12, 19, 13⟩ rfl (fun z hz => by rcases List.mem_cons.mp hz with rfl | hz; exact ⟨by decide, "java/lang/IndexOutOfBoundsException", wd_4_51, List.mem_of_getElem? (i := 0) rfl⟩; cases hz) (by decide) (by decide) wd_4_22 (List.mem_of_getElem? (i := 1) rfl) (fun q => ?_)
  refine g_astore C (i := 5) (lv' := [(5, .ref q), (0, .ref (za Z a0)), (1, .int a1), (2, .int a2), (3, .int a3), (4, .ref (za Z a4))]) (dk kL_readableFor 13 rfl) (by decide) rfl ?_
  refine g_iconst C (v := 2) (by decide) (dk kL_readableFor 14 rfl) ?_
  exact g_iret C E rfl rfl (by decide) (by decide) (dk kL_readableFor 15 rfl)

def qL_reason : List (Nat × Instr × Nat) := [(0, .aload 4, 2), (2, .iconst 0, 1), (3, .aload_n 0, 1), (4, .iload_n 1, 1), (5, .iload_n 2, 1), (6, .iload_n 3, 1), (7, .invokevirtual 67, 3), (10, .i2l, 1), (11, .lastore, 1), (12, .goto 11, 3), (15, .astore 5, 2), (17, .iconst 1, 1), (18, .ireturn, 1), (19, .astore 5, 2), (21, .iconst 2, 1), (22, .ireturn, 1), (23, .iconst 0, 1), (24, .ireturn, 1)]
theorem kL_reason : ∀ q ∈ qL_reason, decode cL_reason q.1 = .ok q.2 := by decide +kernel
def f_L_reason (K : Nat → Nat × Nat) (μ : Mm) (a0 : Nat) (a1 : Int32) (a2 : Int32) (a3 : Int32) (a4 : Nat) : Option (Int32 × Mm) :=
  bd (f_X7_reason K μ a0 a1 a2 a3) fun x2 => gd (inb 0 (K a4).2) <| lt1 (sJ μ a4 (ix 0) (Int32.toInt64 x2)) fun μ4 => some (0, μ4)
set_option maxRecDepth 100000 in
set_option maxHeartbeats 4000000 in
theorem t_L_reason {l : Launch} {Z : ZZ} {X : XX} (μ : Mm) (a0 : Nat) (a1 : Int32) (a2 : Int32) (a3 : Int32) (a4 : Nat) (r : Int32) (μ' : Mm) (k0 : (zk Z a0).1 = 5) (k4 : (zk Z a4).1 = 12) (h : f_L_reason (zk Z) μ a0 a1 a2 a3 a4 = some (r, μ')) (C : Cx l Z false X cL_reason RL 6 (some .int)) (E : Ex Z X 4 0 0 (some (.int r)) Z μ') : G Z X 6 0 0 0 [(0, .ref (za Z a0)), (1, .int a1), (2, .int a2), (3, .int a3), (4, .ref (za Z a4))] [] μ := by
  unfold f_L_reason at h
  refine g_aload C (i := 4) 4 rfl (dk kL_reason 0 rfl) ?_
  refine g_iconst C (v := 0) (by decide) (dk kL_reason 1 rfl) ?_
  refine g_aload_n C (i := 0) 0 rfl rfl (dk kL_reason 2 rfl) ?_
  refine g_iload_n C (i := 1) 1 rfl rfl (dk kL_reason 3 rfl) ?_
  refine g_iload_n C (i := 2) 2 rfl rfl (dk kL_reason 4 rfl) ?_
  refine g_iload_n C (i := 3) 3 rfl rfl (dk kL_reason 5 rfl) ?_
  obtain ⟨x2, eq1, h⟩ := bd_inv h
  refine g_callV C E.2 (rest := [.int 0, .ref (za Z a4)]) 3 (ct_X7_reason k0 eq1) wd_4_174 mm_X7_reason ⟨rfl, by decide, by decide, by decide⟩ rfl (by decide) k0 (by decide) rfl rfl (Nat.le_of_ble_eq_true rfl) (by decide) (dk kL_reason 6 rfl) ?_
  refine g_i2l C (dk kL_reason 7 rfl) ?_
  obtain ⟨c3, h⟩ := gd_inv h
  obtain ⟨μ4, eμ4, h⟩ := lt_inv h
  refine g_last C k4 c3 eμ4 (dk kL_reason 8 rfl) ?_
  refine g_goto C (tgt := 23) (dk kL_reason 9 rfl) (by decide) ?_
  refine g_iconst C (v := 0) (by decide) (dk kL_reason 16 rfl) ?_
  obtain ⟨h8, h9⟩ := Prod.mk.inj (Option.some.inj h)
  subst h8
  subst h9
  exact g_iret C E rfl rfl (Nat.le_refl 0) (Nat.le_refl 0) (dk kL_reason 17 rfl)
theorem ct_L_reason {l : Launch} {Z : ZZ} {μ : Mm} {a0 : Nat} {a1 : Int32} {a2 : Int32} {a3 : Int32} {a4 : Nat} {r : Int32} {μ' : Mm} (k0 : (zk Z a0).1 = 5) (k4 : (zk Z a4).1 = 12) (h : f_L_reason (zk Z) μ a0 a1 a2 a3 a4 = some (r, μ')) : CtW l Z yL_reason cL_reason 6 (some .int) [(0, 12, 15, 28), (0, 12, 19, 13)] 4 0 0 [.ref (za Z a0), .int a1, .int a2, .int a3, .ref (za Z a4)] μ (some (.int r)) Z μ' := ctw_of rfl rfl (Nat.le_of_ble_eq_true rfl) (fun X C E _ => t_L_reason μ a0 a1 a2 a3 a4 r μ' k0 k4 h C E)

set_option maxRecDepth 100000 in
set_option maxHeartbeats 4000000 in
theorem ctx1_L_reason {l : Launch} {Z : ZZ} {μ : Mm} {a0 : Nat} {a1 : Int32} {a2 : Int32} {a3 : Int32} {a4 : Nat} {μ9 : Mm} (k0 : (zk Z a0).1 = 5) (k4 : (zk Z a4).1 = 12) (hl : l.stackTraces = false) (h : fx_X7_reason (zk Z) μ a0 a1 a2 a3 = some (1, μ9)) : CtW l Z yL_reason cL_reason 6 (some .int) [(0, 12, 15, 28), (0, 12, 19, 13)] 8 1 6 [.ref (za Z a0), .int a1, .int a2, .int a3, .ref (za Z a4)] μ (some (.int 1)) Z μ9 := by
  refine ctw_of rfl rfl (Nat.le_of_ble_eq_true rfl) (fun X C E htab => ?_)
  show G Z X 6 0 0 0 [(0, .ref (za Z a0)), (1, .int a1), (2, .int a2), (3, .int a3), (4, .ref (za Z a4))] [] μ
  refine g_aload C (i := 4) 4 rfl (dk kL_reason 0 rfl) ?_
  refine g_iconst C (v := 0) (by decide) (dk kL_reason 1 rfl) ?_
  refine g_aload_n C (i := 0) 0 rfl rfl (dk kL_reason 2 rfl) ?_
  refine g_iload_n C (i := 1) 1 rfl rfl (dk kL_reason 3 rfl) ?_
  refine g_iload_n C (i := 2) 2 rfl rfl (dk kL_reason 4 rfl) ?_
  refine g_iload_n C (i := 3) 3 rfl rfl (dk kL_reason 5 rfl) ?_
  refine gx_catchV (E := "java/lang/IndexOutOfBoundsException") C E.2 (rest := [.int 0, .ref (za Z a4)]) 3 (by have q := ctx_X7_reason k0 hl h (by decide); exact q) wd_4_174 mm_X7_reason ⟨rfl, by decide, by decide, by decide⟩ rfl (by decide) k0 (by decide) rfl rfl (Nat.le_of_ble_eq_true rfl) (by decide) (dk kL_reason 6 rfl) htab [] [⟨0, 12, 19, 13⟩] ⟨0, 12, 15, 28⟩ rfl (fun z hz => by cases hz) (by decide) (by decide) wd_4_51 (List.mem_of_getElem? (i := 0) rfl) (fun q => ?_)
  refine g_astore C (i := 5) (lv' := [(5, .ref q), (0, .ref (za Z a0)), (1, .int a1), (2, .int a2), (3, .int a3), (4, .ref (za Z a4))]) (dk kL_reason 10 rfl) (by decide) rfl ?_
  refine g_iconst C (v := 1) (by decide) (dk kL_reason 11 rfl) ?_
  exact g_iret C E rfl rfl (by decide) (by decide) (dk kL_reason 12 rfl)

set_option maxRecDepth 100000 in
set_option maxHeartbeats 4000000 in
theorem ctx2_L_reason {l : Launch} {Z : ZZ} {μ : Mm} {a0 : Nat} {a1 : Int32} {a2 : Int32} {a3 : Int32} {a4 : Nat} {μ9 : Mm} (k0 : (zk Z a0).1 = 5) (k4 : (zk Z a4).1 = 12) (hl : l.stackTraces = false) (h : fx_X7_reason (zk Z) μ a0 a1 a2 a3 = some (2, μ9)) : CtW l Z yL_reason cL_reason 6 (some .int) [(0, 12, 15, 28), (0, 12, 19, 13)] 8 1 6 [.ref (za Z a0), .int a1, .int a2, .int a3, .ref (za Z a4)] μ (some (.int 2)) Z μ9 := by
  refine ctw_of rfl rfl (Nat.le_of_ble_eq_true rfl) (fun X C E htab => ?_)
  show G Z X 6 0 0 0 [(0, .ref (za Z a0)), (1, .int a1), (2, .int a2), (3, .int a3), (4, .ref (za Z a4))] [] μ
  refine g_aload C (i := 4) 4 rfl (dk kL_reason 0 rfl) ?_
  refine g_iconst C (v := 0) (by decide) (dk kL_reason 1 rfl) ?_
  refine g_aload_n C (i := 0) 0 rfl rfl (dk kL_reason 2 rfl) ?_
  refine g_iload_n C (i := 1) 1 rfl rfl (dk kL_reason 3 rfl) ?_
  refine g_iload_n C (i := 2) 2 rfl rfl (dk kL_reason 4 rfl) ?_
  refine g_iload_n C (i := 3) 3 rfl rfl (dk kL_reason 5 rfl) ?_
  refine gx_catchV (E := "java/lang/IllegalArgumentException") C E.2 (rest := [.int 0, .ref (za Z a4)]) 3 (by have q := ctx_X7_reason k0 hl h (by decide); exact q) wd_4_174 mm_X7_reason ⟨rfl, by decide, by decide, by decide⟩ rfl (by decide) k0 (by decide) rfl rfl (Nat.le_of_ble_eq_true rfl) (by decide) (dk kL_reason 6 rfl) htab [⟨0, 12, 15, 28⟩] [] ⟨0, 12, 19, 13⟩ rfl (fun z hz => by rcases List.mem_cons.mp hz with rfl | hz; exact ⟨by decide, "java/lang/IndexOutOfBoundsException", wd_4_51, List.mem_of_getElem? (i := 0) rfl⟩; cases hz) (by decide) (by decide) wd_4_22 (List.mem_of_getElem? (i := 1) rfl) (fun q => ?_)
  refine g_astore C (i := 5) (lv' := [(5, .ref q), (0, .ref (za Z a0)), (1, .int a1), (2, .int a2), (3, .int a3), (4, .ref (za Z a4))]) (dk kL_reason 13 rfl) (by decide) rfl ?_
  refine g_iconst C (v := 2) (by decide) (dk kL_reason 14 rfl) ?_
  exact g_iret C E rfl rfl (by decide) (by decide) (dk kL_reason 15 rfl)

def qL_rent : List (Nat × Instr × Nat) := [(0, .aload 4, 2), (2, .iconst 0, 1), (3, .aload_n 0, 1), (4, .iload_n 1, 1), (5, .iload_n 2, 1), (6, .iload_n 3, 1), (7, .invokevirtual 40, 3), (10, .i2l, 1), (11, .lastore, 1), (12, .goto 15, 3), (15, .astore 5, 2), (17, .iconst 1, 1), (18, .ireturn, 1), (19, .astore 5, 2), (21, .iconst 2, 1), (22, .ireturn, 1), (23, .astore 5, 2), (25, .iconst 3, 1), (26, .ireturn, 1), (27, .iconst 0, 1), (28, .ireturn, 1)]
theorem kL_rent : ∀ q ∈ qL_rent, decode cL_rent q.1 = .ok q.2 := by decide +kernel
def f_L_rent (K : Nat → Nat × Nat) (μ : Mm) (a0 : Nat) (a1 : Int32) (a2 : Int32) (a3 : Int32) (a4 : Nat) : Option (Int32 × Mm) :=
  bd (f_X7_rent K μ a0 a1 a2 a3) fun q1 => lt1 q1.1 fun x3 => lt1 q1.2 fun μ2 => gd (inb 0 (K a4).2) <| lt1 (sJ μ2 a4 (ix 0) (Int32.toInt64 x3)) fun μ5 => some (0, μ5)
set_option maxRecDepth 100000 in
set_option maxHeartbeats 4000000 in
theorem t_L_rent {l : Launch} {Z : ZZ} {X : XX} (μ : Mm) (a0 : Nat) (a1 : Int32) (a2 : Int32) (a3 : Int32) (a4 : Nat) (r : Int32) (μ' : Mm) (k0 : (zk Z a0).1 = 5) (k4 : (zk Z a4).1 = 12) (h : f_L_rent (zk Z) μ a0 a1 a2 a3 a4 = some (r, μ')) (C : Cx l Z false X cL_rent RL 6 (some .int)) (E : Ex Z X 5 0 0 (some (.int r)) Z μ') : G Z X 6 0 0 0 [(0, .ref (za Z a0)), (1, .int a1), (2, .int a2), (3, .int a3), (4, .ref (za Z a4))] [] μ := by
  unfold f_L_rent at h
  refine g_aload C (i := 4) 4 rfl (dk kL_rent 0 rfl) ?_
  refine g_iconst C (v := 0) (by decide) (dk kL_rent 1 rfl) ?_
  refine g_aload_n C (i := 0) 0 rfl rfl (dk kL_rent 2 rfl) ?_
  refine g_iload_n C (i := 1) 1 rfl rfl (dk kL_rent 3 rfl) ?_
  refine g_iload_n C (i := 2) 2 rfl rfl (dk kL_rent 4 rfl) ?_
  refine g_iload_n C (i := 3) 3 rfl rfl (dk kL_rent 5 rfl) ?_
  obtain ⟨q1, eq1, h⟩ := bd_inv h
  obtain ⟨x3, ex3, h⟩ := lt_inv h
  obtain ⟨μ2, eμ2, h⟩ := lt_inv h
  rw [show q1 = (x3, μ2) from by rw [ex3, eμ2]] at eq1
  refine g_callV C E.2 (rest := [.int 0, .ref (za Z a4)]) 3 (ct_X7_rent k0 eq1) wd_4_88 mm_X7_rent ⟨rfl, by decide, by decide, by decide⟩ rfl (by decide) k0 (by decide) rfl rfl (Nat.le_of_ble_eq_true rfl) (by decide) (dk kL_rent 6 rfl) ?_
  refine g_i2l C (dk kL_rent 7 rfl) ?_
  obtain ⟨c4, h⟩ := gd_inv h
  obtain ⟨μ5, eμ5, h⟩ := lt_inv h
  refine g_last C k4 c4 eμ5 (dk kL_rent 8 rfl) ?_
  refine g_goto C (tgt := 27) (dk kL_rent 9 rfl) (by decide) ?_
  refine g_iconst C (v := 0) (by decide) (dk kL_rent 19 rfl) ?_
  obtain ⟨h8, h9⟩ := Prod.mk.inj (Option.some.inj h)
  subst h8
  subst h9
  exact g_iret C E rfl rfl (Nat.le_refl 0) (Nat.le_refl 0) (dk kL_rent 20 rfl)
theorem ct_L_rent {l : Launch} {Z : ZZ} {μ : Mm} {a0 : Nat} {a1 : Int32} {a2 : Int32} {a3 : Int32} {a4 : Nat} {r : Int32} {μ' : Mm} (k0 : (zk Z a0).1 = 5) (k4 : (zk Z a4).1 = 12) (h : f_L_rent (zk Z) μ a0 a1 a2 a3 a4 = some (r, μ')) : CtW l Z yL_rent cL_rent 6 (some .int) [(0, 12, 15, 28), (0, 12, 19, 13), (0, 12, 23, 22)] 5 0 0 [.ref (za Z a0), .int a1, .int a2, .int a3, .ref (za Z a4)] μ (some (.int r)) Z μ' := ctw_of rfl rfl (Nat.le_of_ble_eq_true rfl) (fun X C E _ => t_L_rent μ a0 a1 a2 a3 a4 r μ' k0 k4 h C E)

set_option maxRecDepth 100000 in
set_option maxHeartbeats 4000000 in
theorem ctx1_L_rent {l : Launch} {Z : ZZ} {μ : Mm} {a0 : Nat} {a1 : Int32} {a2 : Int32} {a3 : Int32} {a4 : Nat} {μ9 : Mm} (k0 : (zk Z a0).1 = 5) (k4 : (zk Z a4).1 = 12) (hl : l.stackTraces = false) (h : fx_X7_rent (zk Z) μ a0 a1 a2 a3 = some (1, μ9)) : CtW l Z yL_rent cL_rent 6 (some .int) [(0, 12, 15, 28), (0, 12, 19, 13), (0, 12, 23, 22)] 8 1 6 [.ref (za Z a0), .int a1, .int a2, .int a3, .ref (za Z a4)] μ (some (.int 1)) Z μ9 := by
  refine ctw_of rfl rfl (Nat.le_of_ble_eq_true rfl) (fun X C E htab => ?_)
  show G Z X 6 0 0 0 [(0, .ref (za Z a0)), (1, .int a1), (2, .int a2), (3, .int a3), (4, .ref (za Z a4))] [] μ
  refine g_aload C (i := 4) 4 rfl (dk kL_rent 0 rfl) ?_
  refine g_iconst C (v := 0) (by decide) (dk kL_rent 1 rfl) ?_
  refine g_aload_n C (i := 0) 0 rfl rfl (dk kL_rent 2 rfl) ?_
  refine g_iload_n C (i := 1) 1 rfl rfl (dk kL_rent 3 rfl) ?_
  refine g_iload_n C (i := 2) 2 rfl rfl (dk kL_rent 4 rfl) ?_
  refine g_iload_n C (i := 3) 3 rfl rfl (dk kL_rent 5 rfl) ?_
  refine gx_catchV (E := "java/lang/IndexOutOfBoundsException") C E.2 (rest := [.int 0, .ref (za Z a4)]) 3 (by have q := ctx_X7_rent k0 hl h (by decide); exact q) wd_4_88 mm_X7_rent ⟨rfl, by decide, by decide, by decide⟩ rfl (by decide) k0 (by decide) rfl rfl (Nat.le_of_ble_eq_true rfl) (by decide) (dk kL_rent 6 rfl) htab [] [⟨0, 12, 19, 13⟩, ⟨0, 12, 23, 22⟩] ⟨0, 12, 15, 28⟩ rfl (fun z hz => by cases hz) (by decide) (by decide) wd_4_51 (List.mem_of_getElem? (i := 0) rfl) (fun q => ?_)
  refine g_astore C (i := 5) (lv' := [(5, .ref q), (0, .ref (za Z a0)), (1, .int a1), (2, .int a2), (3, .int a3), (4, .ref (za Z a4))]) (dk kL_rent 10 rfl) (by decide) rfl ?_
  refine g_iconst C (v := 1) (by decide) (dk kL_rent 11 rfl) ?_
  exact g_iret C E rfl rfl (by decide) (by decide) (dk kL_rent 12 rfl)

set_option maxRecDepth 100000 in
set_option maxHeartbeats 4000000 in
theorem ctx2_L_rent {l : Launch} {Z : ZZ} {μ : Mm} {a0 : Nat} {a1 : Int32} {a2 : Int32} {a3 : Int32} {a4 : Nat} {μ9 : Mm} (k0 : (zk Z a0).1 = 5) (k4 : (zk Z a4).1 = 12) (hl : l.stackTraces = false) (h : fx_X7_rent (zk Z) μ a0 a1 a2 a3 = some (2, μ9)) : CtW l Z yL_rent cL_rent 6 (some .int) [(0, 12, 15, 28), (0, 12, 19, 13), (0, 12, 23, 22)] 8 1 6 [.ref (za Z a0), .int a1, .int a2, .int a3, .ref (za Z a4)] μ (some (.int 2)) Z μ9 := by
  refine ctw_of rfl rfl (Nat.le_of_ble_eq_true rfl) (fun X C E htab => ?_)
  show G Z X 6 0 0 0 [(0, .ref (za Z a0)), (1, .int a1), (2, .int a2), (3, .int a3), (4, .ref (za Z a4))] [] μ
  refine g_aload C (i := 4) 4 rfl (dk kL_rent 0 rfl) ?_
  refine g_iconst C (v := 0) (by decide) (dk kL_rent 1 rfl) ?_
  refine g_aload_n C (i := 0) 0 rfl rfl (dk kL_rent 2 rfl) ?_
  refine g_iload_n C (i := 1) 1 rfl rfl (dk kL_rent 3 rfl) ?_
  refine g_iload_n C (i := 2) 2 rfl rfl (dk kL_rent 4 rfl) ?_
  refine g_iload_n C (i := 3) 3 rfl rfl (dk kL_rent 5 rfl) ?_
  refine gx_catchV (E := "java/lang/IllegalArgumentException") C E.2 (rest := [.int 0, .ref (za Z a4)]) 3 (by have q := ctx_X7_rent k0 hl h (by decide); exact q) wd_4_88 mm_X7_rent ⟨rfl, by decide, by decide, by decide⟩ rfl (by decide) k0 (by decide) rfl rfl (Nat.le_of_ble_eq_true rfl) (by decide) (dk kL_rent 6 rfl) htab [⟨0, 12, 15, 28⟩] [⟨0, 12, 23, 22⟩] ⟨0, 12, 19, 13⟩ rfl (fun z hz => by rcases List.mem_cons.mp hz with rfl | hz; exact ⟨by decide, "java/lang/IndexOutOfBoundsException", wd_4_51, List.mem_of_getElem? (i := 0) rfl⟩; cases hz) (by decide) (by decide) wd_4_22 (List.mem_of_getElem? (i := 1) rfl) (fun q => ?_)
  refine g_astore C (i := 5) (lv' := [(5, .ref q), (0, .ref (za Z a0)), (1, .int a1), (2, .int a2), (3, .int a3), (4, .ref (za Z a4))]) (dk kL_rent 13 rfl) (by decide) rfl ?_
  refine g_iconst C (v := 2) (by decide) (dk kL_rent 14 rfl) ?_
  exact g_iret C E rfl rfl (by decide) (by decide) (dk kL_rent 15 rfl)

set_option maxRecDepth 100000 in
set_option maxHeartbeats 4000000 in
theorem ctx3_L_rent {l : Launch} {Z : ZZ} {μ : Mm} {a0 : Nat} {a1 : Int32} {a2 : Int32} {a3 : Int32} {a4 : Nat} {μ9 : Mm} (k0 : (zk Z a0).1 = 5) (k4 : (zk Z a4).1 = 12) (hl : l.stackTraces = false) (h : fx_X7_rent (zk Z) μ a0 a1 a2 a3 = some (3, μ9)) : CtW l Z yL_rent cL_rent 6 (some .int) [(0, 12, 15, 28), (0, 12, 19, 13), (0, 12, 23, 22)] 8 1 6 [.ref (za Z a0), .int a1, .int a2, .int a3, .ref (za Z a4)] μ (some (.int 3)) Z μ9 := by
  refine ctw_of rfl rfl (Nat.le_of_ble_eq_true rfl) (fun X C E htab => ?_)
  show G Z X 6 0 0 0 [(0, .ref (za Z a0)), (1, .int a1), (2, .int a2), (3, .int a3), (4, .ref (za Z a4))] [] μ
  refine g_aload C (i := 4) 4 rfl (dk kL_rent 0 rfl) ?_
  refine g_iconst C (v := 0) (by decide) (dk kL_rent 1 rfl) ?_
  refine g_aload_n C (i := 0) 0 rfl rfl (dk kL_rent 2 rfl) ?_
  refine g_iload_n C (i := 1) 1 rfl rfl (dk kL_rent 3 rfl) ?_
  refine g_iload_n C (i := 2) 2 rfl rfl (dk kL_rent 4 rfl) ?_
  refine g_iload_n C (i := 3) 3 rfl rfl (dk kL_rent 5 rfl) ?_
  refine gx_catchV (E := "java/lang/IllegalStateException") C E.2 (rest := [.int 0, .ref (za Z a4)]) 3 (by have q := ctx_X7_rent k0 hl h (by decide); exact q) wd_4_88 mm_X7_rent ⟨rfl, by decide, by decide, by decide⟩ rfl (by decide) k0 (by decide) rfl rfl (Nat.le_of_ble_eq_true rfl) (by decide) (dk kL_rent 6 rfl) htab [⟨0, 12, 15, 28⟩, ⟨0, 12, 19, 13⟩] [] ⟨0, 12, 23, 22⟩ rfl (fun z hz => by rcases List.mem_cons.mp hz with rfl | hz; exact ⟨by decide, "java/lang/IndexOutOfBoundsException", wd_4_51, List.mem_of_getElem? (i := 1) rfl⟩; rcases List.mem_cons.mp hz with rfl | hz; exact ⟨by decide, "java/lang/IllegalArgumentException", wd_4_22, List.mem_of_getElem? (i := 2) rfl⟩; cases hz) (by decide) (by decide) wd_4_41 (List.mem_of_getElem? (i := 2) rfl) (fun q => ?_)
  refine g_astore C (i := 5) (lv' := [(5, .ref q), (0, .ref (za Z a0)), (1, .int a1), (2, .int a2), (3, .int a3), (4, .ref (za Z a4))]) (dk kL_rent 16 rfl) (by decide) rfl ?_
  refine g_iconst C (v := 3) (by decide) (dk kL_rent 17 rfl) ?_
  exact g_iret C E rfl rfl (by decide) (by decide) (dk kL_rent 18 rfl)

def qL_replace : List (Nat × Instr × Nat) := [(0, .aload_n 2, 1), (1, .iconst 0, 1), (2, .aload_n 0, 1), (3, .iload_n 1, 1), (4, .invokevirtual 30, 3), (7, .i2l, 1), (8, .lastore, 1), (9, .goto 6, 3), (12, .astore_n 3, 1), (13, .iconst 1, 1), (14, .ireturn, 1), (15, .iconst 0, 1), (16, .ireturn, 1)]
theorem kL_replace : ∀ q ∈ qL_replace, decode cL_replace q.1 = .ok q.2 := by decide +kernel
def f_L_replace (K : Nat → Nat × Nat) (μ : Mm) (a0 : Nat) (a1 : Int32) (a2 : Nat) : Option (Int32 × Mm) :=
  bd (f_X7_replace K μ a0 a1) fun q1 => lt1 q1.1 fun x3 => lt1 q1.2 fun μ2 => gd (inb 0 (K a2).2) <| lt1 (sJ μ2 a2 (ix 0) (Int32.toInt64 x3)) fun μ5 => some (0, μ5)
set_option maxRecDepth 100000 in
set_option maxHeartbeats 4000000 in
theorem t_L_replace {l : Launch} {Z : ZZ} {X : XX} (μ : Mm) (a0 : Nat) (a1 : Int32) (a2 : Nat) (r : Int32) (μ' : Mm) (k0 : (zk Z a0).1 = 5) (k2 : (zk Z a2).1 = 12) (h : f_L_replace (zk Z) μ a0 a1 a2 = some (r, μ')) (C : Cx l Z false X cL_replace RL 4 (some .int)) (E : Ex Z X 5 0 0 (some (.int r)) Z μ') : G Z X 4 0 0 0 [(0, .ref (za Z a0)), (1, .int a1), (2, .ref (za Z a2))] [] μ := by
  unfold f_L_replace at h
  refine g_aload_n C (i := 2) 2 rfl rfl (dk kL_replace 0 rfl) ?_
  refine g_iconst C (v := 0) (by decide) (dk kL_replace 1 rfl) ?_
  refine g_aload_n C (i := 0) 0 rfl rfl (dk kL_replace 2 rfl) ?_
  refine g_iload_n C (i := 1) 1 rfl rfl (dk kL_replace 3 rfl) ?_
  obtain ⟨q1, eq1, h⟩ := bd_inv h
  obtain ⟨x3, ex3, h⟩ := lt_inv h
  obtain ⟨μ2, eμ2, h⟩ := lt_inv h
  rw [show q1 = (x3, μ2) from by rw [ex3, eμ2]] at eq1
  refine g_callV C E.2 (rest := [.int 0, .ref (za Z a2)]) 1 (ct_X7_replace k0 eq1) wd_4_61 mm_X7_replace ⟨rfl, by decide, by decide, by decide⟩ rfl (by decide) k0 (by decide) rfl rfl (Nat.le_of_ble_eq_true rfl) (by decide) (dk kL_replace 4 rfl) ?_
  refine g_i2l C (dk kL_replace 5 rfl) ?_
  obtain ⟨c4, h⟩ := gd_inv h
  obtain ⟨μ5, eμ5, h⟩ := lt_inv h
  refine g_last C k2 c4 eμ5 (dk kL_replace 6 rfl) ?_
  refine g_goto C (tgt := 15) (dk kL_replace 7 rfl) (by decide) ?_
  refine g_iconst C (v := 0) (by decide) (dk kL_replace 11 rfl) ?_
  obtain ⟨h8, h9⟩ := Prod.mk.inj (Option.some.inj h)
  subst h8
  subst h9
  exact g_iret C E rfl rfl (Nat.le_refl 0) (Nat.le_refl 0) (dk kL_replace 12 rfl)
theorem ct_L_replace {l : Launch} {Z : ZZ} {μ : Mm} {a0 : Nat} {a1 : Int32} {a2 : Nat} {r : Int32} {μ' : Mm} (k0 : (zk Z a0).1 = 5) (k2 : (zk Z a2).1 = 12) (h : f_L_replace (zk Z) μ a0 a1 a2 = some (r, μ')) : CtW l Z yL_replace cL_replace 4 (some .int) [(0, 9, 12, 28)] 5 0 0 [.ref (za Z a0), .int a1, .ref (za Z a2)] μ (some (.int r)) Z μ' := ctw_of rfl rfl (Nat.le_of_ble_eq_true rfl) (fun X C E _ => t_L_replace μ a0 a1 a2 r μ' k0 k2 h C E)

set_option maxRecDepth 100000 in
set_option maxHeartbeats 4000000 in
theorem ctx1_L_replace {l : Launch} {Z : ZZ} {μ : Mm} {a0 : Nat} {a1 : Int32} {a2 : Nat} {μ9 : Mm} (k0 : (zk Z a0).1 = 5) (k2 : (zk Z a2).1 = 12) (hl : l.stackTraces = false) (h : fx_X7_replace (zk Z) μ a0 a1 = some (1, μ9)) : CtW l Z yL_replace cL_replace 4 (some .int) [(0, 9, 12, 28)] 8 1 6 [.ref (za Z a0), .int a1, .ref (za Z a2)] μ (some (.int 1)) Z μ9 := by
  refine ctw_of rfl rfl (Nat.le_of_ble_eq_true rfl) (fun X C E htab => ?_)
  show G Z X 4 0 0 0 [(0, .ref (za Z a0)), (1, .int a1), (2, .ref (za Z a2))] [] μ
  refine g_aload_n C (i := 2) 2 rfl rfl (dk kL_replace 0 rfl) ?_
  refine g_iconst C (v := 0) (by decide) (dk kL_replace 1 rfl) ?_
  refine g_aload_n C (i := 0) 0 rfl rfl (dk kL_replace 2 rfl) ?_
  refine g_iload_n C (i := 1) 1 rfl rfl (dk kL_replace 3 rfl) ?_
  refine gx_catchV (E := "java/lang/IndexOutOfBoundsException") C E.2 (rest := [.int 0, .ref (za Z a2)]) 1 (by have q := ctx_X7_replace k0 hl h (by decide); exact q) wd_4_61 mm_X7_replace ⟨rfl, by decide, by decide, by decide⟩ rfl (by decide) k0 (by decide) rfl rfl (Nat.le_of_ble_eq_true rfl) (by decide) (dk kL_replace 4 rfl) htab [] [] ⟨0, 9, 12, 28⟩ rfl (fun z hz => by cases hz) (by decide) (by decide) wd_4_51 (List.mem_of_getElem? (i := 0) rfl) (fun q => ?_)
  refine g_astore_n C (i := 3) (lv' := [(3, .ref q), (0, .ref (za Z a0)), (1, .int a1), (2, .ref (za Z a2))]) (dk kL_replace 8 rfl) rfl (by decide) rfl ?_
  refine g_iconst C (v := 1) (by decide) (dk kL_replace 9 rfl) ?_
  exact g_iret C E rfl rfl (by decide) (by decide) (dk kL_replace 10 rfl)

def qL_row : List (Nat × Instr × Nat) := [(0, .aload_n 3, 1), (1, .iconst 0, 1), (2, .aload_n 0, 1), (3, .iload_n 1, 1), (4, .iload_n 2, 1), (5, .invokevirtual 58, 3), (8, .i2l, 1), (9, .lastore, 1), (10, .goto 11, 3), (13, .astore 4, 2), (15, .iconst 1, 1), (16, .ireturn, 1), (17, .astore 4, 2), (19, .iconst 2, 1), (20, .ireturn, 1), (21, .iconst 0, 1), (22, .ireturn, 1)]
theorem kL_row : ∀ q ∈ qL_row, decode cL_row q.1 = .ok q.2 := by decide +kernel
def f_L_row (K : Nat → Nat × Nat) (μ : Mm) (a0 : Nat) (a1 : Int32) (a2 : Int32) (a3 : Nat) : Option (Int32 × Mm) :=
  bd (f_X7_row K μ a0 a1 a2) fun x2 => gd (inb 0 (K a3).2) <| lt1 (sJ μ a3 (ix 0) (Int32.toInt64 x2)) fun μ4 => some (0, μ4)
set_option maxRecDepth 100000 in
set_option maxHeartbeats 4000000 in
theorem t_L_row {l : Launch} {Z : ZZ} {X : XX} (μ : Mm) (a0 : Nat) (a1 : Int32) (a2 : Int32) (a3 : Nat) (r : Int32) (μ' : Mm) (k0 : (zk Z a0).1 = 5) (k3 : (zk Z a3).1 = 12) (h : f_L_row (zk Z) μ a0 a1 a2 a3 = some (r, μ')) (C : Cx l Z false X cL_row RL 5 (some .int)) (E : Ex Z X 3 0 0 (some (.int r)) Z μ') : G Z X 5 0 0 0 [(0, .ref (za Z a0)), (1, .int a1), (2, .int a2), (3, .ref (za Z a3))] [] μ := by
  unfold f_L_row at h
  refine g_aload_n C (i := 3) 3 rfl rfl (dk kL_row 0 rfl) ?_
  refine g_iconst C (v := 0) (by decide) (dk kL_row 1 rfl) ?_
  refine g_aload_n C (i := 0) 0 rfl rfl (dk kL_row 2 rfl) ?_
  refine g_iload_n C (i := 1) 1 rfl rfl (dk kL_row 3 rfl) ?_
  refine g_iload_n C (i := 2) 2 rfl rfl (dk kL_row 4 rfl) ?_
  obtain ⟨x2, eq1, h⟩ := bd_inv h
  refine g_callV C E.2 (rest := [.int 0, .ref (za Z a3)]) 2 (ct_X7_row k0 eq1) wd_4_152 mm_X7_row ⟨rfl, by decide, by decide, by decide⟩ rfl (by decide) k0 (by decide) rfl rfl (Nat.le_of_ble_eq_true rfl) (by decide) (dk kL_row 5 rfl) ?_
  refine g_i2l C (dk kL_row 6 rfl) ?_
  obtain ⟨c3, h⟩ := gd_inv h
  obtain ⟨μ4, eμ4, h⟩ := lt_inv h
  refine g_last C k3 c3 eμ4 (dk kL_row 7 rfl) ?_
  refine g_goto C (tgt := 21) (dk kL_row 8 rfl) (by decide) ?_
  refine g_iconst C (v := 0) (by decide) (dk kL_row 15 rfl) ?_
  obtain ⟨h8, h9⟩ := Prod.mk.inj (Option.some.inj h)
  subst h8
  subst h9
  exact g_iret C E rfl rfl (Nat.le_refl 0) (Nat.le_refl 0) (dk kL_row 16 rfl)
theorem ct_L_row {l : Launch} {Z : ZZ} {μ : Mm} {a0 : Nat} {a1 : Int32} {a2 : Int32} {a3 : Nat} {r : Int32} {μ' : Mm} (k0 : (zk Z a0).1 = 5) (k3 : (zk Z a3).1 = 12) (h : f_L_row (zk Z) μ a0 a1 a2 a3 = some (r, μ')) : CtW l Z yL_row cL_row 5 (some .int) [(0, 10, 13, 28), (0, 10, 17, 13)] 3 0 0 [.ref (za Z a0), .int a1, .int a2, .ref (za Z a3)] μ (some (.int r)) Z μ' := ctw_of rfl rfl (Nat.le_of_ble_eq_true rfl) (fun X C E _ => t_L_row μ a0 a1 a2 a3 r μ' k0 k3 h C E)

set_option maxRecDepth 100000 in
set_option maxHeartbeats 4000000 in
theorem ctx1_L_row {l : Launch} {Z : ZZ} {μ : Mm} {a0 : Nat} {a1 : Int32} {a2 : Int32} {a3 : Nat} {μ9 : Mm} (k0 : (zk Z a0).1 = 5) (k3 : (zk Z a3).1 = 12) (hl : l.stackTraces = false) (h : fx_X7_row (zk Z) μ a0 a1 a2 = some (1, μ9)) : CtW l Z yL_row cL_row 5 (some .int) [(0, 10, 13, 28), (0, 10, 17, 13)] 8 1 6 [.ref (za Z a0), .int a1, .int a2, .ref (za Z a3)] μ (some (.int 1)) Z μ9 := by
  refine ctw_of rfl rfl (Nat.le_of_ble_eq_true rfl) (fun X C E htab => ?_)
  show G Z X 5 0 0 0 [(0, .ref (za Z a0)), (1, .int a1), (2, .int a2), (3, .ref (za Z a3))] [] μ
  refine g_aload_n C (i := 3) 3 rfl rfl (dk kL_row 0 rfl) ?_
  refine g_iconst C (v := 0) (by decide) (dk kL_row 1 rfl) ?_
  refine g_aload_n C (i := 0) 0 rfl rfl (dk kL_row 2 rfl) ?_
  refine g_iload_n C (i := 1) 1 rfl rfl (dk kL_row 3 rfl) ?_
  refine g_iload_n C (i := 2) 2 rfl rfl (dk kL_row 4 rfl) ?_
  refine gx_catchV (E := "java/lang/IndexOutOfBoundsException") C E.2 (rest := [.int 0, .ref (za Z a3)]) 2 (by have q := ctx_X7_row k0 hl h (by decide); exact q) wd_4_152 mm_X7_row ⟨rfl, by decide, by decide, by decide⟩ rfl (by decide) k0 (by decide) rfl rfl (Nat.le_of_ble_eq_true rfl) (by decide) (dk kL_row 5 rfl) htab [] [⟨0, 10, 17, 13⟩] ⟨0, 10, 13, 28⟩ rfl (fun z hz => by cases hz) (by decide) (by decide) wd_4_51 (List.mem_of_getElem? (i := 0) rfl) (fun q => ?_)
  refine g_astore C (i := 4) (lv' := [(4, .ref q), (0, .ref (za Z a0)), (1, .int a1), (2, .int a2), (3, .ref (za Z a3))]) (dk kL_row 9 rfl) (by decide) rfl ?_
  refine g_iconst C (v := 1) (by decide) (dk kL_row 10 rfl) ?_
  exact g_iret C E rfl rfl (by decide) (by decide) (dk kL_row 11 rfl)

set_option maxRecDepth 100000 in
set_option maxHeartbeats 4000000 in
theorem ctx2_L_row {l : Launch} {Z : ZZ} {μ : Mm} {a0 : Nat} {a1 : Int32} {a2 : Int32} {a3 : Nat} {μ9 : Mm} (k0 : (zk Z a0).1 = 5) (k3 : (zk Z a3).1 = 12) (hl : l.stackTraces = false) (h : fx_X7_row (zk Z) μ a0 a1 a2 = some (2, μ9)) : CtW l Z yL_row cL_row 5 (some .int) [(0, 10, 13, 28), (0, 10, 17, 13)] 8 1 6 [.ref (za Z a0), .int a1, .int a2, .ref (za Z a3)] μ (some (.int 2)) Z μ9 := by
  refine ctw_of rfl rfl (Nat.le_of_ble_eq_true rfl) (fun X C E htab => ?_)
  show G Z X 5 0 0 0 [(0, .ref (za Z a0)), (1, .int a1), (2, .int a2), (3, .ref (za Z a3))] [] μ
  refine g_aload_n C (i := 3) 3 rfl rfl (dk kL_row 0 rfl) ?_
  refine g_iconst C (v := 0) (by decide) (dk kL_row 1 rfl) ?_
  refine g_aload_n C (i := 0) 0 rfl rfl (dk kL_row 2 rfl) ?_
  refine g_iload_n C (i := 1) 1 rfl rfl (dk kL_row 3 rfl) ?_
  refine g_iload_n C (i := 2) 2 rfl rfl (dk kL_row 4 rfl) ?_
  refine gx_catchV (E := "java/lang/IllegalArgumentException") C E.2 (rest := [.int 0, .ref (za Z a3)]) 2 (by have q := ctx_X7_row k0 hl h (by decide); exact q) wd_4_152 mm_X7_row ⟨rfl, by decide, by decide, by decide⟩ rfl (by decide) k0 (by decide) rfl rfl (Nat.le_of_ble_eq_true rfl) (by decide) (dk kL_row 5 rfl) htab [⟨0, 10, 13, 28⟩] [] ⟨0, 10, 17, 13⟩ rfl (fun z hz => by rcases List.mem_cons.mp hz with rfl | hz; exact ⟨by decide, "java/lang/IndexOutOfBoundsException", wd_4_51, List.mem_of_getElem? (i := 0) rfl⟩; cases hz) (by decide) (by decide) wd_4_22 (List.mem_of_getElem? (i := 1) rfl) (fun q => ?_)
  refine g_astore C (i := 4) (lv' := [(4, .ref q), (0, .ref (za Z a0)), (1, .int a1), (2, .int a2), (3, .ref (za Z a3))]) (dk kL_row 12 rfl) (by decide) rfl ?_
  refine g_iconst C (v := 2) (by decide) (dk kL_row 13 rfl) ?_
  exact g_iret C E rfl rfl (by decide) (by decide) (dk kL_row 14 rfl)

def qL_set : List (Nat × Instr × Nat) := [(0, .aload_n 3, 1), (1, .iconst 0, 1), (2, .aload_n 0, 1), (3, .iload_n 1, 1), (4, .iload_n 2, 1), (5, .invokevirtual 15, 3), (8, .i2l, 1), (9, .lastore, 1), (10, .goto 7, 3), (13, .astore 4, 2), (15, .iconst 1, 1), (16, .ireturn, 1), (17, .iconst 0, 1), (18, .ireturn, 1)]
theorem kL_set : ∀ q ∈ qL_set, decode cL_set q.1 = .ok q.2 := by decide +kernel
def f_L_set (K : Nat → Nat × Nat) (μ : Mm) (a0 : Nat) (a1 : Int32) (a2 : Int32) (a3 : Nat) : Option (Int32 × Mm) :=
  bd (f_X7_set K μ a0 a1 a2) fun q1 => lt1 q1.1 fun x3 => lt1 q1.2 fun μ2 => gd (inb 0 (K a3).2) <| lt1 (sJ μ2 a3 (ix 0) (Int32.toInt64 x3)) fun μ5 => some (0, μ5)
set_option maxRecDepth 100000 in
set_option maxHeartbeats 4000000 in
theorem t_L_set {l : Launch} {Z : ZZ} {X : XX} (μ : Mm) (a0 : Nat) (a1 : Int32) (a2 : Int32) (a3 : Nat) (r : Int32) (μ' : Mm) (k0 : (zk Z a0).1 = 5) (k3 : (zk Z a3).1 = 12) (h : f_L_set (zk Z) μ a0 a1 a2 a3 = some (r, μ')) (C : Cx l Z false X cL_set RL 5 (some .int)) (E : Ex Z X 5 0 0 (some (.int r)) Z μ') : G Z X 5 0 0 0 [(0, .ref (za Z a0)), (1, .int a1), (2, .int a2), (3, .ref (za Z a3))] [] μ := by
  unfold f_L_set at h
  refine g_aload_n C (i := 3) 3 rfl rfl (dk kL_set 0 rfl) ?_
  refine g_iconst C (v := 0) (by decide) (dk kL_set 1 rfl) ?_
  refine g_aload_n C (i := 0) 0 rfl rfl (dk kL_set 2 rfl) ?_
  refine g_iload_n C (i := 1) 1 rfl rfl (dk kL_set 3 rfl) ?_
  refine g_iload_n C (i := 2) 2 rfl rfl (dk kL_set 4 rfl) ?_
  obtain ⟨q1, eq1, h⟩ := bd_inv h
  obtain ⟨x3, ex3, h⟩ := lt_inv h
  obtain ⟨μ2, eμ2, h⟩ := lt_inv h
  rw [show q1 = (x3, μ2) from by rw [ex3, eμ2]] at eq1
  refine g_callV C E.2 (rest := [.int 0, .ref (za Z a3)]) 2 (ct_X7_set k0 eq1) wd_4_32 mm_X7_set ⟨rfl, by decide, by decide, by decide⟩ rfl (by decide) k0 (by decide) rfl rfl (Nat.le_of_ble_eq_true rfl) (by decide) (dk kL_set 5 rfl) ?_
  refine g_i2l C (dk kL_set 6 rfl) ?_
  obtain ⟨c4, h⟩ := gd_inv h
  obtain ⟨μ5, eμ5, h⟩ := lt_inv h
  refine g_last C k3 c4 eμ5 (dk kL_set 7 rfl) ?_
  refine g_goto C (tgt := 17) (dk kL_set 8 rfl) (by decide) ?_
  refine g_iconst C (v := 0) (by decide) (dk kL_set 12 rfl) ?_
  obtain ⟨h8, h9⟩ := Prod.mk.inj (Option.some.inj h)
  subst h8
  subst h9
  exact g_iret C E rfl rfl (Nat.le_refl 0) (Nat.le_refl 0) (dk kL_set 13 rfl)
theorem ct_L_set {l : Launch} {Z : ZZ} {μ : Mm} {a0 : Nat} {a1 : Int32} {a2 : Int32} {a3 : Nat} {r : Int32} {μ' : Mm} (k0 : (zk Z a0).1 = 5) (k3 : (zk Z a3).1 = 12) (h : f_L_set (zk Z) μ a0 a1 a2 a3 = some (r, μ')) : CtW l Z yL_set cL_set 5 (some .int) [(0, 10, 13, 13)] 5 0 0 [.ref (za Z a0), .int a1, .int a2, .ref (za Z a3)] μ (some (.int r)) Z μ' := ctw_of rfl rfl (Nat.le_of_ble_eq_true rfl) (fun X C E _ => t_L_set μ a0 a1 a2 a3 r μ' k0 k3 h C E)

set_option maxRecDepth 100000 in
set_option maxHeartbeats 4000000 in
theorem ctx2_L_set {l : Launch} {Z : ZZ} {μ : Mm} {a0 : Nat} {a1 : Int32} {a2 : Int32} {a3 : Nat} {μ9 : Mm} (k0 : (zk Z a0).1 = 5) (k3 : (zk Z a3).1 = 12) (hl : l.stackTraces = false) (h : fx_X7_set (zk Z) μ a0 a1 a2 = some (2, μ9)) : CtW l Z yL_set cL_set 5 (some .int) [(0, 10, 13, 13)] 8 1 6 [.ref (za Z a0), .int a1, .int a2, .ref (za Z a3)] μ (some (.int 1)) Z μ9 := by
  refine ctw_of rfl rfl (Nat.le_of_ble_eq_true rfl) (fun X C E htab => ?_)
  show G Z X 5 0 0 0 [(0, .ref (za Z a0)), (1, .int a1), (2, .int a2), (3, .ref (za Z a3))] [] μ
  refine g_aload_n C (i := 3) 3 rfl rfl (dk kL_set 0 rfl) ?_
  refine g_iconst C (v := 0) (by decide) (dk kL_set 1 rfl) ?_
  refine g_aload_n C (i := 0) 0 rfl rfl (dk kL_set 2 rfl) ?_
  refine g_iload_n C (i := 1) 1 rfl rfl (dk kL_set 3 rfl) ?_
  refine g_iload_n C (i := 2) 2 rfl rfl (dk kL_set 4 rfl) ?_
  refine gx_catchV (E := "java/lang/IllegalArgumentException") C E.2 (rest := [.int 0, .ref (za Z a3)]) 2 (by have q := ctx_X7_set k0 hl h (by decide); exact q) wd_4_32 mm_X7_set ⟨rfl, by decide, by decide, by decide⟩ rfl (by decide) k0 (by decide) rfl rfl (Nat.le_of_ble_eq_true rfl) (by decide) (dk kL_set 5 rfl) htab [] [] ⟨0, 10, 13, 13⟩ rfl (fun z hz => by cases hz) (by decide) (by decide) wd_4_22 (List.mem_of_getElem? (i := 1) rfl) (fun q => ?_)
  refine g_astore C (i := 4) (lv' := [(4, .ref q), (0, .ref (za Z a0)), (1, .int a1), (2, .int a2), (3, .ref (za Z a3))]) (dk kL_set 9 rfl) (by decide) rfl ?_
  refine g_iconst C (v := 1) (by decide) (dk kL_set 10 rfl) ?_
  exact g_iret C E rfl rfl (by decide) (by decide) (dk kL_set 11 rfl)

def qL_setRow : List (Nat × Instr × Nat) := [(0, .aload 4, 2), (2, .iconst 0, 1), (3, .aload_n 0, 1), (4, .iload_n 1, 1), (5, .iload_n 2, 1), (6, .iload_n 3, 1), (7, .invokevirtual 24, 3), (10, .i2l, 1), (11, .lastore, 1), (12, .goto 11, 3), (15, .astore 5, 2), (17, .iconst 1, 1), (18, .ireturn, 1), (19, .astore 5, 2), (21, .iconst 2, 1), (22, .ireturn, 1), (23, .iconst 0, 1), (24, .ireturn, 1)]
theorem kL_setRow : ∀ q ∈ qL_setRow, decode cL_setRow q.1 = .ok q.2 := by decide +kernel
def f_L_setRow (K : Nat → Nat × Nat) (μ : Mm) (a0 : Nat) (a1 : Int32) (a2 : Int32) (a3 : Int32) (a4 : Nat) : Option (Int32 × Mm) :=
  bd (f_X7_setRow K μ a0 a1 a2 a3) fun q1 => lt1 q1.1 fun x3 => lt1 q1.2 fun μ2 => gd (inb 0 (K a4).2) <| lt1 (sJ μ2 a4 (ix 0) (Int32.toInt64 x3)) fun μ5 => some (0, μ5)
set_option maxRecDepth 100000 in
set_option maxHeartbeats 4000000 in
theorem t_L_setRow {l : Launch} {Z : ZZ} {X : XX} (μ : Mm) (a0 : Nat) (a1 : Int32) (a2 : Int32) (a3 : Int32) (a4 : Nat) (r : Int32) (μ' : Mm) (k0 : (zk Z a0).1 = 5) (k4 : (zk Z a4).1 = 12) (h : f_L_setRow (zk Z) μ a0 a1 a2 a3 a4 = some (r, μ')) (C : Cx l Z false X cL_setRow RL 6 (some .int)) (E : Ex Z X 5 0 0 (some (.int r)) Z μ') : G Z X 6 0 0 0 [(0, .ref (za Z a0)), (1, .int a1), (2, .int a2), (3, .int a3), (4, .ref (za Z a4))] [] μ := by
  unfold f_L_setRow at h
  refine g_aload C (i := 4) 4 rfl (dk kL_setRow 0 rfl) ?_
  refine g_iconst C (v := 0) (by decide) (dk kL_setRow 1 rfl) ?_
  refine g_aload_n C (i := 0) 0 rfl rfl (dk kL_setRow 2 rfl) ?_
  refine g_iload_n C (i := 1) 1 rfl rfl (dk kL_setRow 3 rfl) ?_
  refine g_iload_n C (i := 2) 2 rfl rfl (dk kL_setRow 4 rfl) ?_
  refine g_iload_n C (i := 3) 3 rfl rfl (dk kL_setRow 5 rfl) ?_
  obtain ⟨q1, eq1, h⟩ := bd_inv h
  obtain ⟨x3, ex3, h⟩ := lt_inv h
  obtain ⟨μ2, eμ2, h⟩ := lt_inv h
  rw [show q1 = (x3, μ2) from by rw [ex3, eμ2]] at eq1
  refine g_callV C E.2 (rest := [.int 0, .ref (za Z a4)]) 3 (ct_X7_setRow k0 eq1) wd_4_52 mm_X7_setRow ⟨rfl, by decide, by decide, by decide⟩ rfl (by decide) k0 (by decide) rfl rfl (Nat.le_of_ble_eq_true rfl) (by decide) (dk kL_setRow 6 rfl) ?_
  refine g_i2l C (dk kL_setRow 7 rfl) ?_
  obtain ⟨c4, h⟩ := gd_inv h
  obtain ⟨μ5, eμ5, h⟩ := lt_inv h
  refine g_last C k4 c4 eμ5 (dk kL_setRow 8 rfl) ?_
  refine g_goto C (tgt := 23) (dk kL_setRow 9 rfl) (by decide) ?_
  refine g_iconst C (v := 0) (by decide) (dk kL_setRow 16 rfl) ?_
  obtain ⟨h8, h9⟩ := Prod.mk.inj (Option.some.inj h)
  subst h8
  subst h9
  exact g_iret C E rfl rfl (Nat.le_refl 0) (Nat.le_refl 0) (dk kL_setRow 17 rfl)
theorem ct_L_setRow {l : Launch} {Z : ZZ} {μ : Mm} {a0 : Nat} {a1 : Int32} {a2 : Int32} {a3 : Int32} {a4 : Nat} {r : Int32} {μ' : Mm} (k0 : (zk Z a0).1 = 5) (k4 : (zk Z a4).1 = 12) (h : f_L_setRow (zk Z) μ a0 a1 a2 a3 a4 = some (r, μ')) : CtW l Z yL_setRow cL_setRow 6 (some .int) [(0, 12, 15, 28), (0, 12, 19, 13)] 5 0 0 [.ref (za Z a0), .int a1, .int a2, .int a3, .ref (za Z a4)] μ (some (.int r)) Z μ' := ctw_of rfl rfl (Nat.le_of_ble_eq_true rfl) (fun X C E _ => t_L_setRow μ a0 a1 a2 a3 a4 r μ' k0 k4 h C E)

set_option maxRecDepth 100000 in
set_option maxHeartbeats 4000000 in
theorem ctx1_L_setRow {l : Launch} {Z : ZZ} {μ : Mm} {a0 : Nat} {a1 : Int32} {a2 : Int32} {a3 : Int32} {a4 : Nat} {μ9 : Mm} (k0 : (zk Z a0).1 = 5) (k4 : (zk Z a4).1 = 12) (hl : l.stackTraces = false) (h : fx_X7_setRow (zk Z) μ a0 a1 a2 a3 = some (1, μ9)) : CtW l Z yL_setRow cL_setRow 6 (some .int) [(0, 12, 15, 28), (0, 12, 19, 13)] 8 1 6 [.ref (za Z a0), .int a1, .int a2, .int a3, .ref (za Z a4)] μ (some (.int 1)) Z μ9 := by
  refine ctw_of rfl rfl (Nat.le_of_ble_eq_true rfl) (fun X C E htab => ?_)
  show G Z X 6 0 0 0 [(0, .ref (za Z a0)), (1, .int a1), (2, .int a2), (3, .int a3), (4, .ref (za Z a4))] [] μ
  refine g_aload C (i := 4) 4 rfl (dk kL_setRow 0 rfl) ?_
  refine g_iconst C (v := 0) (by decide) (dk kL_setRow 1 rfl) ?_
  refine g_aload_n C (i := 0) 0 rfl rfl (dk kL_setRow 2 rfl) ?_
  refine g_iload_n C (i := 1) 1 rfl rfl (dk kL_setRow 3 rfl) ?_
  refine g_iload_n C (i := 2) 2 rfl rfl (dk kL_setRow 4 rfl) ?_
  refine g_iload_n C (i := 3) 3 rfl rfl (dk kL_setRow 5 rfl) ?_
  refine gx_catchV (E := "java/lang/IndexOutOfBoundsException") C E.2 (rest := [.int 0, .ref (za Z a4)]) 3 (by have q := ctx_X7_setRow k0 hl h (by decide); exact q) wd_4_52 mm_X7_setRow ⟨rfl, by decide, by decide, by decide⟩ rfl (by decide) k0 (by decide) rfl rfl (Nat.le_of_ble_eq_true rfl) (by decide) (dk kL_setRow 6 rfl) htab [] [⟨0, 12, 19, 13⟩] ⟨0, 12, 15, 28⟩ rfl (fun z hz => by cases hz) (by decide) (by decide) wd_4_51 (List.mem_of_getElem? (i := 0) rfl) (fun q => ?_)
  refine g_astore C (i := 5) (lv' := [(5, .ref q), (0, .ref (za Z a0)), (1, .int a1), (2, .int a2), (3, .int a3), (4, .ref (za Z a4))]) (dk kL_setRow 10 rfl) (by decide) rfl ?_
  refine g_iconst C (v := 1) (by decide) (dk kL_setRow 11 rfl) ?_
  exact g_iret C E rfl rfl (by decide) (by decide) (dk kL_setRow 12 rfl)

set_option maxRecDepth 100000 in
set_option maxHeartbeats 4000000 in
theorem ctx2_L_setRow {l : Launch} {Z : ZZ} {μ : Mm} {a0 : Nat} {a1 : Int32} {a2 : Int32} {a3 : Int32} {a4 : Nat} {μ9 : Mm} (k0 : (zk Z a0).1 = 5) (k4 : (zk Z a4).1 = 12) (hl : l.stackTraces = false) (h : fx_X7_setRow (zk Z) μ a0 a1 a2 a3 = some (2, μ9)) : CtW l Z yL_setRow cL_setRow 6 (some .int) [(0, 12, 15, 28), (0, 12, 19, 13)] 8 1 6 [.ref (za Z a0), .int a1, .int a2, .int a3, .ref (za Z a4)] μ (some (.int 2)) Z μ9 := by
  refine ctw_of rfl rfl (Nat.le_of_ble_eq_true rfl) (fun X C E htab => ?_)
  show G Z X 6 0 0 0 [(0, .ref (za Z a0)), (1, .int a1), (2, .int a2), (3, .int a3), (4, .ref (za Z a4))] [] μ
  refine g_aload C (i := 4) 4 rfl (dk kL_setRow 0 rfl) ?_
  refine g_iconst C (v := 0) (by decide) (dk kL_setRow 1 rfl) ?_
  refine g_aload_n C (i := 0) 0 rfl rfl (dk kL_setRow 2 rfl) ?_
  refine g_iload_n C (i := 1) 1 rfl rfl (dk kL_setRow 3 rfl) ?_
  refine g_iload_n C (i := 2) 2 rfl rfl (dk kL_setRow 4 rfl) ?_
  refine g_iload_n C (i := 3) 3 rfl rfl (dk kL_setRow 5 rfl) ?_
  refine gx_catchV (E := "java/lang/IllegalArgumentException") C E.2 (rest := [.int 0, .ref (za Z a4)]) 3 (by have q := ctx_X7_setRow k0 hl h (by decide); exact q) wd_4_52 mm_X7_setRow ⟨rfl, by decide, by decide, by decide⟩ rfl (by decide) k0 (by decide) rfl rfl (Nat.le_of_ble_eq_true rfl) (by decide) (dk kL_setRow 6 rfl) htab [⟨0, 12, 15, 28⟩] [] ⟨0, 12, 19, 13⟩ rfl (fun z hz => by rcases List.mem_cons.mp hz with rfl | hz; exact ⟨by decide, "java/lang/IndexOutOfBoundsException", wd_4_51, List.mem_of_getElem? (i := 0) rfl⟩; cases hz) (by decide) (by decide) wd_4_22 (List.mem_of_getElem? (i := 1) rfl) (fun q => ?_)
  refine g_astore C (i := 5) (lv' := [(5, .ref q), (0, .ref (za Z a0)), (1, .int a1), (2, .int a2), (3, .int a3), (4, .ref (za Z a4))]) (dk kL_setRow 13 rfl) (by decide) rfl ?_
  refine g_iconst C (v := 2) (by decide) (dk kL_setRow 14 rfl) ?_
  exact g_iret C E rfl rfl (by decide) (by decide) (dk kL_setRow 15 rfl)

def qL_type : List (Nat × Instr × Nat) := [(0, .aload_n 2, 1), (1, .iconst 0, 1), (2, .aload_n 0, 1), (3, .iload_n 1, 1), (4, .invokevirtual 82, 3), (7, .i2l, 1), (8, .lastore, 1), (9, .goto 9, 3), (12, .astore_n 3, 1), (13, .iconst 1, 1), (14, .ireturn, 1), (15, .astore_n 3, 1), (16, .iconst 2, 1), (17, .ireturn, 1), (18, .iconst 0, 1), (19, .ireturn, 1)]
theorem kL_type : ∀ q ∈ qL_type, decode cL_type q.1 = .ok q.2 := by decide +kernel
def f_L_type (K : Nat → Nat × Nat) (μ : Mm) (a0 : Nat) (a1 : Int32) (a2 : Nat) : Option (Int32 × Mm) :=
  bd (f_X7_type K μ a0 a1) fun q1 => lt1 q1.1 fun x3 => lt1 q1.2 fun μ2 => gd (inb 0 (K a2).2) <| lt1 (sJ μ2 a2 (ix 0) (Int32.toInt64 x3)) fun μ5 => some (0, μ5)
set_option maxRecDepth 100000 in
set_option maxHeartbeats 4000000 in
theorem t_L_type {l : Launch} {Z : ZZ} {X : XX} (μ : Mm) (a0 : Nat) (a1 : Int32) (a2 : Nat) (r : Int32) (μ' : Mm) (k0 : (zk Z a0).1 = 5) (k2 : (zk Z a2).1 = 12) (h : f_L_type (zk Z) μ a0 a1 a2 = some (r, μ')) (C : Cx l Z false X cL_type RL 4 (some .int)) (E : Ex Z X 2 0 0 (some (.int r)) Z μ') : G Z X 4 0 0 0 [(0, .ref (za Z a0)), (1, .int a1), (2, .ref (za Z a2))] [] μ := by
  unfold f_L_type at h
  refine g_aload_n C (i := 2) 2 rfl rfl (dk kL_type 0 rfl) ?_
  refine g_iconst C (v := 0) (by decide) (dk kL_type 1 rfl) ?_
  refine g_aload_n C (i := 0) 0 rfl rfl (dk kL_type 2 rfl) ?_
  refine g_iload_n C (i := 1) 1 rfl rfl (dk kL_type 3 rfl) ?_
  obtain ⟨q1, eq1, h⟩ := bd_inv h
  obtain ⟨x3, ex3, h⟩ := lt_inv h
  obtain ⟨μ2, eμ2, h⟩ := lt_inv h
  rw [show q1 = (x3, μ2) from by rw [ex3, eμ2]] at eq1
  refine g_callV C E.2 (rest := [.int 0, .ref (za Z a2)]) 1 (ct_X7_type k0 eq1) wd_4_218 mm_X7_type ⟨rfl, by decide, by decide, by decide⟩ rfl (by decide) k0 (by decide) rfl rfl (Nat.le_of_ble_eq_true rfl) (by decide) (dk kL_type 4 rfl) ?_
  refine g_i2l C (dk kL_type 5 rfl) ?_
  obtain ⟨c4, h⟩ := gd_inv h
  obtain ⟨μ5, eμ5, h⟩ := lt_inv h
  refine g_last C k2 c4 eμ5 (dk kL_type 6 rfl) ?_
  refine g_goto C (tgt := 18) (dk kL_type 7 rfl) (by decide) ?_
  refine g_iconst C (v := 0) (by decide) (dk kL_type 14 rfl) ?_
  obtain ⟨h8, h9⟩ := Prod.mk.inj (Option.some.inj h)
  subst h8
  subst h9
  exact g_iret C E rfl rfl (Nat.le_refl 0) (Nat.le_refl 0) (dk kL_type 15 rfl)
theorem ct_L_type {l : Launch} {Z : ZZ} {μ : Mm} {a0 : Nat} {a1 : Int32} {a2 : Nat} {r : Int32} {μ' : Mm} (k0 : (zk Z a0).1 = 5) (k2 : (zk Z a2).1 = 12) (h : f_L_type (zk Z) μ a0 a1 a2 = some (r, μ')) : CtW l Z yL_type cL_type 4 (some .int) [(0, 9, 12, 13), (0, 9, 15, 22)] 2 0 0 [.ref (za Z a0), .int a1, .ref (za Z a2)] μ (some (.int r)) Z μ' := ctw_of rfl rfl (Nat.le_of_ble_eq_true rfl) (fun X C E _ => t_L_type μ a0 a1 a2 r μ' k0 k2 h C E)

set_option maxRecDepth 100000 in
set_option maxHeartbeats 4000000 in
theorem ctx2_L_type {l : Launch} {Z : ZZ} {μ : Mm} {a0 : Nat} {a1 : Int32} {a2 : Nat} {μ9 : Mm} (k0 : (zk Z a0).1 = 5) (k2 : (zk Z a2).1 = 12) (hl : l.stackTraces = false) (h : fx_X7_type (zk Z) μ a0 a1 = some (2, μ9)) : CtW l Z yL_type cL_type 4 (some .int) [(0, 9, 12, 13), (0, 9, 15, 22)] 8 1 6 [.ref (za Z a0), .int a1, .ref (za Z a2)] μ (some (.int 1)) Z μ9 := by
  refine ctw_of rfl rfl (Nat.le_of_ble_eq_true rfl) (fun X C E htab => ?_)
  show G Z X 4 0 0 0 [(0, .ref (za Z a0)), (1, .int a1), (2, .ref (za Z a2))] [] μ
  refine g_aload_n C (i := 2) 2 rfl rfl (dk kL_type 0 rfl) ?_
  refine g_iconst C (v := 0) (by decide) (dk kL_type 1 rfl) ?_
  refine g_aload_n C (i := 0) 0 rfl rfl (dk kL_type 2 rfl) ?_
  refine g_iload_n C (i := 1) 1 rfl rfl (dk kL_type 3 rfl) ?_
  refine gx_catchV (E := "java/lang/IllegalArgumentException") C E.2 (rest := [.int 0, .ref (za Z a2)]) 1 (by have q := ctx_X7_type k0 hl h (by decide); exact q) wd_4_218 mm_X7_type ⟨rfl, by decide, by decide, by decide⟩ rfl (by decide) k0 (by decide) rfl rfl (Nat.le_of_ble_eq_true rfl) (by decide) (dk kL_type 4 rfl) htab [] [⟨0, 9, 15, 22⟩] ⟨0, 9, 12, 13⟩ rfl (fun z hz => by cases hz) (by decide) (by decide) wd_4_22 (List.mem_of_getElem? (i := 1) rfl) (fun q => ?_)
  refine g_astore_n C (i := 3) (lv' := [(3, .ref q), (0, .ref (za Z a0)), (1, .int a1), (2, .ref (za Z a2))]) (dk kL_type 8 rfl) rfl (by decide) rfl ?_
  refine g_iconst C (v := 1) (by decide) (dk kL_type 9 rfl) ?_
  exact g_iret C E rfl rfl (by decide) (by decide) (dk kL_type 10 rfl)

set_option maxRecDepth 100000 in
set_option maxHeartbeats 4000000 in
theorem ctx3_L_type {l : Launch} {Z : ZZ} {μ : Mm} {a0 : Nat} {a1 : Int32} {a2 : Nat} {μ9 : Mm} (k0 : (zk Z a0).1 = 5) (k2 : (zk Z a2).1 = 12) (hl : l.stackTraces = false) (h : fx_X7_type (zk Z) μ a0 a1 = some (3, μ9)) : CtW l Z yL_type cL_type 4 (some .int) [(0, 9, 12, 13), (0, 9, 15, 22)] 8 1 6 [.ref (za Z a0), .int a1, .ref (za Z a2)] μ (some (.int 2)) Z μ9 := by
  refine ctw_of rfl rfl (Nat.le_of_ble_eq_true rfl) (fun X C E htab => ?_)
  show G Z X 4 0 0 0 [(0, .ref (za Z a0)), (1, .int a1), (2, .ref (za Z a2))] [] μ
  refine g_aload_n C (i := 2) 2 rfl rfl (dk kL_type 0 rfl) ?_
  refine g_iconst C (v := 0) (by decide) (dk kL_type 1 rfl) ?_
  refine g_aload_n C (i := 0) 0 rfl rfl (dk kL_type 2 rfl) ?_
  refine g_iload_n C (i := 1) 1 rfl rfl (dk kL_type 3 rfl) ?_
  refine gx_catchV (E := "java/lang/IllegalStateException") C E.2 (rest := [.int 0, .ref (za Z a2)]) 1 (by have q := ctx_X7_type k0 hl h (by decide); exact q) wd_4_218 mm_X7_type ⟨rfl, by decide, by decide, by decide⟩ rfl (by decide) k0 (by decide) rfl rfl (Nat.le_of_ble_eq_true rfl) (by decide) (dk kL_type 4 rfl) htab [⟨0, 9, 12, 13⟩] [] ⟨0, 9, 15, 22⟩ rfl (fun z hz => by rcases List.mem_cons.mp hz with rfl | hz; exact ⟨by decide, "java/lang/IllegalArgumentException", wd_4_22, List.mem_of_getElem? (i := 2) rfl⟩; cases hz) (by decide) (by decide) wd_4_41 (List.mem_of_getElem? (i := 2) rfl) (fun q => ?_)
  refine g_astore_n C (i := 3) (lv' := [(3, .ref q), (0, .ref (za Z a0)), (1, .int a1), (2, .ref (za Z a2))]) (dk kL_type 11 rfl) rfl (by decide) rfl ?_
  refine g_iconst C (v := 2) (by decide) (dk kL_type 12 rfl) ?_
  exact g_iret C E rfl rfl (by decide) (by decide) (dk kL_type 13 rfl)

def qL_undo : List (Nat × Instr × Nat) := [(0, .aload_n 1, 1), (1, .iconst 0, 1), (2, .aload_n 0, 1), (3, .invokevirtual 85, 3), (6, .i2l, 1), (7, .lastore, 1), (8, .goto 6, 3), (11, .astore_n 2, 1), (12, .iconst 1, 1), (13, .ireturn, 1), (14, .iconst 0, 1), (15, .ireturn, 1)]
theorem kL_undo : ∀ q ∈ qL_undo, decode cL_undo q.1 = .ok q.2 := by decide +kernel
def f_L_undo (K : Nat → Nat × Nat) (μ : Mm) (a0 : Nat) (a1 : Nat) : Option (Int32 × Mm) :=
  bd (f_X7_undo K μ a0) fun q1 => lt1 q1.1 fun x3 => lt1 q1.2 fun μ2 => gd (inb 0 (K a1).2) <| lt1 (sJ μ2 a1 (ix 0) (Int32.toInt64 x3)) fun μ5 => some (0, μ5)
set_option maxRecDepth 100000 in
set_option maxHeartbeats 4000000 in
theorem t_L_undo {l : Launch} {Z : ZZ} {X : XX} (μ : Mm) (a0 : Nat) (a1 : Nat) (r : Int32) (μ' : Mm) (k0 : (zk Z a0).1 = 5) (k1 : (zk Z a1).1 = 12) (h : f_L_undo (zk Z) μ a0 a1 = some (r, μ')) (C : Cx l Z false X cL_undo RL 3 (some .int)) (E : Ex Z X 4 0 0 (some (.int r)) Z μ') : G Z X 3 0 0 0 [(0, .ref (za Z a0)), (1, .ref (za Z a1))] [] μ := by
  unfold f_L_undo at h
  refine g_aload_n C (i := 1) 1 rfl rfl (dk kL_undo 0 rfl) ?_
  refine g_iconst C (v := 0) (by decide) (dk kL_undo 1 rfl) ?_
  refine g_aload_n C (i := 0) 0 rfl rfl (dk kL_undo 2 rfl) ?_
  obtain ⟨q1, eq1, h⟩ := bd_inv h
  obtain ⟨x3, ex3, h⟩ := lt_inv h
  obtain ⟨μ2, eμ2, h⟩ := lt_inv h
  rw [show q1 = (x3, μ2) from by rw [ex3, eμ2]] at eq1
  refine g_callV C E.2 (rest := [.int 0, .ref (za Z a1)]) 0 (ct_X7_undo k0 eq1) wd_4_233 mm_X7_undo ⟨rfl, by decide, by decide, by decide⟩ rfl (by decide) k0 (by decide) rfl rfl (Nat.le_of_ble_eq_true rfl) (by decide) (dk kL_undo 3 rfl) ?_
  refine g_i2l C (dk kL_undo 4 rfl) ?_
  obtain ⟨c4, h⟩ := gd_inv h
  obtain ⟨μ5, eμ5, h⟩ := lt_inv h
  refine g_last C k1 c4 eμ5 (dk kL_undo 5 rfl) ?_
  refine g_goto C (tgt := 14) (dk kL_undo 6 rfl) (by decide) ?_
  refine g_iconst C (v := 0) (by decide) (dk kL_undo 10 rfl) ?_
  obtain ⟨h8, h9⟩ := Prod.mk.inj (Option.some.inj h)
  subst h8
  subst h9
  exact g_iret C E rfl rfl (Nat.le_refl 0) (Nat.le_refl 0) (dk kL_undo 11 rfl)
theorem ct_L_undo {l : Launch} {Z : ZZ} {μ : Mm} {a0 : Nat} {a1 : Nat} {r : Int32} {μ' : Mm} (k0 : (zk Z a0).1 = 5) (k1 : (zk Z a1).1 = 12) (h : f_L_undo (zk Z) μ a0 a1 = some (r, μ')) : CtW l Z yL_undo cL_undo 3 (some .int) [(0, 8, 11, 22)] 4 0 0 [.ref (za Z a0), .ref (za Z a1)] μ (some (.int r)) Z μ' := ctw_of rfl rfl (Nat.le_of_ble_eq_true rfl) (fun X C E _ => t_L_undo μ a0 a1 r μ' k0 k1 h C E)

set_option maxRecDepth 100000 in
set_option maxHeartbeats 4000000 in
theorem ctx3_L_undo {l : Launch} {Z : ZZ} {μ : Mm} {a0 : Nat} {a1 : Nat} {μ9 : Mm} (k0 : (zk Z a0).1 = 5) (k1 : (zk Z a1).1 = 12) (hl : l.stackTraces = false) (h : fx_X7_undo (zk Z) μ a0 = some (3, μ9)) : CtW l Z yL_undo cL_undo 3 (some .int) [(0, 8, 11, 22)] 8 1 6 [.ref (za Z a0), .ref (za Z a1)] μ (some (.int 1)) Z μ9 := by
  refine ctw_of rfl rfl (Nat.le_of_ble_eq_true rfl) (fun X C E htab => ?_)
  show G Z X 3 0 0 0 [(0, .ref (za Z a0)), (1, .ref (za Z a1))] [] μ
  refine g_aload_n C (i := 1) 1 rfl rfl (dk kL_undo 0 rfl) ?_
  refine g_iconst C (v := 0) (by decide) (dk kL_undo 1 rfl) ?_
  refine g_aload_n C (i := 0) 0 rfl rfl (dk kL_undo 2 rfl) ?_
  refine gx_catchV (E := "java/lang/IllegalStateException") C E.2 (rest := [.int 0, .ref (za Z a1)]) 0 (by have q := ctx_X7_undo k0 hl h (by decide); exact q) wd_4_233 mm_X7_undo ⟨rfl, by decide, by decide, by decide⟩ rfl (by decide) k0 (by decide) rfl rfl (Nat.le_of_ble_eq_true rfl) (by decide) (dk kL_undo 3 rfl) htab [] [] ⟨0, 8, 11, 22⟩ rfl (fun z hz => by cases hz) (by decide) (by decide) wd_4_41 (List.mem_of_getElem? (i := 2) rfl) (fun q => ?_)
  refine g_astore_n C (i := 2) (lv' := [(2, .ref q), (0, .ref (za Z a0)), (1, .ref (za Z a1))]) (dk kL_undo 7 rfl) rfl (by decide) rfl ?_
  refine g_iconst C (v := 1) (by decide) (dk kL_undo 8 rfl) ?_
  exact g_iret C E rfl rfl (by decide) (by decide) (dk kL_undo 9 rfl)

def qL_unreadable : List (Nat × Instr × Nat) := [(0, .aload 4, 2), (2, .iconst 0, 1), (3, .aload_n 0, 1), (4, .iload_n 1, 1), (5, .iload_n 2, 1), (6, .iload_n 3, 1), (7, .invokevirtual 73, 3), (10, .i2l, 1), (11, .lastore, 1), (12, .goto 11, 3), (15, .astore 5, 2), (17, .iconst 1, 1), (18, .ireturn, 1), (19, .astore 5, 2), (21, .iconst 2, 1), (22, .ireturn, 1), (23, .iconst 0, 1), (24, .ireturn, 1)]
theorem kL_unreadable : ∀ q ∈ qL_unreadable, decode cL_unreadable q.1 = .ok q.2 := by decide +kernel
def f_L_unreadable (K : Nat → Nat × Nat) (μ : Mm) (a0 : Nat) (a1 : Int32) (a2 : Int32) (a3 : Int32) (a4 : Nat) : Option (Int32 × Mm) :=
  bd (f_X7_unreadable K μ a0 a1 a2 a3) fun q1 => lt1 q1.1 fun x3 => lt1 q1.2 fun μ2 => gd (inb 0 (K a4).2) <| lt1 (sJ μ2 a4 (ix 0) (Int32.toInt64 x3)) fun μ5 => some (0, μ5)
set_option maxRecDepth 100000 in
set_option maxHeartbeats 4000000 in
theorem t_L_unreadable {l : Launch} {Z : ZZ} {X : XX} (μ : Mm) (a0 : Nat) (a1 : Int32) (a2 : Int32) (a3 : Int32) (a4 : Nat) (r : Int32) (μ' : Mm) (k0 : (zk Z a0).1 = 5) (k4 : (zk Z a4).1 = 12) (h : f_L_unreadable (zk Z) μ a0 a1 a2 a3 a4 = some (r, μ')) (C : Cx l Z false X cL_unreadable RL 6 (some .int)) (E : Ex Z X 4 0 0 (some (.int r)) Z μ') : G Z X 6 0 0 0 [(0, .ref (za Z a0)), (1, .int a1), (2, .int a2), (3, .int a3), (4, .ref (za Z a4))] [] μ := by
  unfold f_L_unreadable at h
  refine g_aload C (i := 4) 4 rfl (dk kL_unreadable 0 rfl) ?_
  refine g_iconst C (v := 0) (by decide) (dk kL_unreadable 1 rfl) ?_
  refine g_aload_n C (i := 0) 0 rfl rfl (dk kL_unreadable 2 rfl) ?_
  refine g_iload_n C (i := 1) 1 rfl rfl (dk kL_unreadable 3 rfl) ?_
  refine g_iload_n C (i := 2) 2 rfl rfl (dk kL_unreadable 4 rfl) ?_
  refine g_iload_n C (i := 3) 3 rfl rfl (dk kL_unreadable 5 rfl) ?_
  obtain ⟨q1, eq1, h⟩ := bd_inv h
  obtain ⟨x3, ex3, h⟩ := lt_inv h
  obtain ⟨μ2, eμ2, h⟩ := lt_inv h
  rw [show q1 = (x3, μ2) from by rw [ex3, eμ2]] at eq1
  refine g_callV C E.2 (rest := [.int 0, .ref (za Z a4)]) 3 (ct_X7_unreadable k0 eq1) wd_4_191 mm_X7_unreadable ⟨rfl, by decide, by decide, by decide⟩ rfl (by decide) k0 (by decide) rfl rfl (Nat.le_of_ble_eq_true rfl) (by decide) (dk kL_unreadable 6 rfl) ?_
  refine g_i2l C (dk kL_unreadable 7 rfl) ?_
  obtain ⟨c4, h⟩ := gd_inv h
  obtain ⟨μ5, eμ5, h⟩ := lt_inv h
  refine g_last C k4 c4 eμ5 (dk kL_unreadable 8 rfl) ?_
  refine g_goto C (tgt := 23) (dk kL_unreadable 9 rfl) (by decide) ?_
  refine g_iconst C (v := 0) (by decide) (dk kL_unreadable 16 rfl) ?_
  obtain ⟨h8, h9⟩ := Prod.mk.inj (Option.some.inj h)
  subst h8
  subst h9
  exact g_iret C E rfl rfl (Nat.le_refl 0) (Nat.le_refl 0) (dk kL_unreadable 17 rfl)
theorem ct_L_unreadable {l : Launch} {Z : ZZ} {μ : Mm} {a0 : Nat} {a1 : Int32} {a2 : Int32} {a3 : Int32} {a4 : Nat} {r : Int32} {μ' : Mm} (k0 : (zk Z a0).1 = 5) (k4 : (zk Z a4).1 = 12) (h : f_L_unreadable (zk Z) μ a0 a1 a2 a3 a4 = some (r, μ')) : CtW l Z yL_unreadable cL_unreadable 6 (some .int) [(0, 12, 15, 28), (0, 12, 19, 13)] 4 0 0 [.ref (za Z a0), .int a1, .int a2, .int a3, .ref (za Z a4)] μ (some (.int r)) Z μ' := ctw_of rfl rfl (Nat.le_of_ble_eq_true rfl) (fun X C E _ => t_L_unreadable μ a0 a1 a2 a3 a4 r μ' k0 k4 h C E)

set_option maxRecDepth 100000 in
set_option maxHeartbeats 4000000 in
theorem ctx1_L_unreadable {l : Launch} {Z : ZZ} {μ : Mm} {a0 : Nat} {a1 : Int32} {a2 : Int32} {a3 : Int32} {a4 : Nat} {μ9 : Mm} (k0 : (zk Z a0).1 = 5) (k4 : (zk Z a4).1 = 12) (hl : l.stackTraces = false) (h : fx_X7_unreadable (zk Z) μ a0 a1 a2 a3 = some (1, μ9)) : CtW l Z yL_unreadable cL_unreadable 6 (some .int) [(0, 12, 15, 28), (0, 12, 19, 13)] 8 1 6 [.ref (za Z a0), .int a1, .int a2, .int a3, .ref (za Z a4)] μ (some (.int 1)) Z μ9 := by
  refine ctw_of rfl rfl (Nat.le_of_ble_eq_true rfl) (fun X C E htab => ?_)
  show G Z X 6 0 0 0 [(0, .ref (za Z a0)), (1, .int a1), (2, .int a2), (3, .int a3), (4, .ref (za Z a4))] [] μ
  refine g_aload C (i := 4) 4 rfl (dk kL_unreadable 0 rfl) ?_
  refine g_iconst C (v := 0) (by decide) (dk kL_unreadable 1 rfl) ?_
  refine g_aload_n C (i := 0) 0 rfl rfl (dk kL_unreadable 2 rfl) ?_
  refine g_iload_n C (i := 1) 1 rfl rfl (dk kL_unreadable 3 rfl) ?_
  refine g_iload_n C (i := 2) 2 rfl rfl (dk kL_unreadable 4 rfl) ?_
  refine g_iload_n C (i := 3) 3 rfl rfl (dk kL_unreadable 5 rfl) ?_
  refine gx_catchV (E := "java/lang/IndexOutOfBoundsException") C E.2 (rest := [.int 0, .ref (za Z a4)]) 3 (by have q := ctx_X7_unreadable k0 hl h (by decide); exact q) wd_4_191 mm_X7_unreadable ⟨rfl, by decide, by decide, by decide⟩ rfl (by decide) k0 (by decide) rfl rfl (Nat.le_of_ble_eq_true rfl) (by decide) (dk kL_unreadable 6 rfl) htab [] [⟨0, 12, 19, 13⟩] ⟨0, 12, 15, 28⟩ rfl (fun z hz => by cases hz) (by decide) (by decide) wd_4_51 (List.mem_of_getElem? (i := 0) rfl) (fun q => ?_)
  refine g_astore C (i := 5) (lv' := [(5, .ref q), (0, .ref (za Z a0)), (1, .int a1), (2, .int a2), (3, .int a3), (4, .ref (za Z a4))]) (dk kL_unreadable 10 rfl) (by decide) rfl ?_
  refine g_iconst C (v := 1) (by decide) (dk kL_unreadable 11 rfl) ?_
  exact g_iret C E rfl rfl (by decide) (by decide) (dk kL_unreadable 12 rfl)

set_option maxRecDepth 100000 in
set_option maxHeartbeats 4000000 in
theorem ctx2_L_unreadable {l : Launch} {Z : ZZ} {μ : Mm} {a0 : Nat} {a1 : Int32} {a2 : Int32} {a3 : Int32} {a4 : Nat} {μ9 : Mm} (k0 : (zk Z a0).1 = 5) (k4 : (zk Z a4).1 = 12) (hl : l.stackTraces = false) (h : fx_X7_unreadable (zk Z) μ a0 a1 a2 a3 = some (2, μ9)) : CtW l Z yL_unreadable cL_unreadable 6 (some .int) [(0, 12, 15, 28), (0, 12, 19, 13)] 8 1 6 [.ref (za Z a0), .int a1, .int a2, .int a3, .ref (za Z a4)] μ (some (.int 2)) Z μ9 := by
  refine ctw_of rfl rfl (Nat.le_of_ble_eq_true rfl) (fun X C E htab => ?_)
  show G Z X 6 0 0 0 [(0, .ref (za Z a0)), (1, .int a1), (2, .int a2), (3, .int a3), (4, .ref (za Z a4))] [] μ
  refine g_aload C (i := 4) 4 rfl (dk kL_unreadable 0 rfl) ?_
  refine g_iconst C (v := 0) (by decide) (dk kL_unreadable 1 rfl) ?_
  refine g_aload_n C (i := 0) 0 rfl rfl (dk kL_unreadable 2 rfl) ?_
  refine g_iload_n C (i := 1) 1 rfl rfl (dk kL_unreadable 3 rfl) ?_
  refine g_iload_n C (i := 2) 2 rfl rfl (dk kL_unreadable 4 rfl) ?_
  refine g_iload_n C (i := 3) 3 rfl rfl (dk kL_unreadable 5 rfl) ?_
  refine gx_catchV (E := "java/lang/IllegalArgumentException") C E.2 (rest := [.int 0, .ref (za Z a4)]) 3 (by have q := ctx_X7_unreadable k0 hl h (by decide); exact q) wd_4_191 mm_X7_unreadable ⟨rfl, by decide, by decide, by decide⟩ rfl (by decide) k0 (by decide) rfl rfl (Nat.le_of_ble_eq_true rfl) (by decide) (dk kL_unreadable 6 rfl) htab [⟨0, 12, 15, 28⟩] [] ⟨0, 12, 19, 13⟩ rfl (fun z hz => by rcases List.mem_cons.mp hz with rfl | hz; exact ⟨by decide, "java/lang/IndexOutOfBoundsException", wd_4_51, List.mem_of_getElem? (i := 0) rfl⟩; cases hz) (by decide) (by decide) wd_4_22 (List.mem_of_getElem? (i := 1) rfl) (fun q => ?_)
  refine g_astore C (i := 5) (lv' := [(5, .ref q), (0, .ref (za Z a0)), (1, .int a1), (2, .int a2), (3, .int a3), (4, .ref (za Z a4))]) (dk kL_unreadable 13 rfl) (by decide) rfl ?_
  refine g_iconst C (v := 2) (by decide) (dk kL_unreadable 14 rfl) ?_
  exact g_iret C E rfl rfl (by decide) (by decide) (dk kL_unreadable 15 rfl)

def qL_whole : List (Nat × Instr × Nat) := [(0, .aload_n 2, 1), (1, .iconst 0, 1), (2, .aload_n 0, 1), (3, .iload_n 1, 1), (4, .invokevirtual 64, 3), (7, .i2l, 1), (8, .lastore, 1), (9, .goto 6, 3), (12, .astore_n 3, 1), (13, .iconst 1, 1), (14, .ireturn, 1), (15, .iconst 0, 1), (16, .ireturn, 1)]
theorem kL_whole : ∀ q ∈ qL_whole, decode cL_whole q.1 = .ok q.2 := by decide +kernel
def f_L_whole (K : Nat → Nat × Nat) (μ : Mm) (a0 : Nat) (a1 : Int32) (a2 : Nat) : Option (Int32 × Mm) :=
  bd (f_X7_whole K μ a0 a1) fun x2 => gd (inb 0 (K a2).2) <| lt1 (sJ μ a2 (ix 0) (Int32.toInt64 x2)) fun μ4 => some (0, μ4)
set_option maxRecDepth 100000 in
set_option maxHeartbeats 4000000 in
theorem t_L_whole {l : Launch} {Z : ZZ} {X : XX} (μ : Mm) (a0 : Nat) (a1 : Int32) (a2 : Nat) (r : Int32) (μ' : Mm) (k0 : (zk Z a0).1 = 5) (k2 : (zk Z a2).1 = 12) (h : f_L_whole (zk Z) μ a0 a1 a2 = some (r, μ')) (C : Cx l Z false X cL_whole RL 4 (some .int)) (E : Ex Z X 4 0 0 (some (.int r)) Z μ') : G Z X 4 0 0 0 [(0, .ref (za Z a0)), (1, .int a1), (2, .ref (za Z a2))] [] μ := by
  unfold f_L_whole at h
  refine g_aload_n C (i := 2) 2 rfl rfl (dk kL_whole 0 rfl) ?_
  refine g_iconst C (v := 0) (by decide) (dk kL_whole 1 rfl) ?_
  refine g_aload_n C (i := 0) 0 rfl rfl (dk kL_whole 2 rfl) ?_
  refine g_iload_n C (i := 1) 1 rfl rfl (dk kL_whole 3 rfl) ?_
  obtain ⟨x2, eq1, h⟩ := bd_inv h
  refine g_callV C E.2 (rest := [.int 0, .ref (za Z a2)]) 1 (ct_X7_whole k0 eq1) wd_4_170 mm_X7_whole ⟨rfl, by decide, by decide, by decide⟩ rfl (by decide) k0 (by decide) rfl rfl (Nat.le_of_ble_eq_true rfl) (by decide) (dk kL_whole 4 rfl) ?_
  refine g_i2l C (dk kL_whole 5 rfl) ?_
  obtain ⟨c3, h⟩ := gd_inv h
  obtain ⟨μ4, eμ4, h⟩ := lt_inv h
  refine g_last C k2 c3 eμ4 (dk kL_whole 6 rfl) ?_
  refine g_goto C (tgt := 15) (dk kL_whole 7 rfl) (by decide) ?_
  refine g_iconst C (v := 0) (by decide) (dk kL_whole 11 rfl) ?_
  obtain ⟨h8, h9⟩ := Prod.mk.inj (Option.some.inj h)
  subst h8
  subst h9
  exact g_iret C E rfl rfl (Nat.le_refl 0) (Nat.le_refl 0) (dk kL_whole 12 rfl)
theorem ct_L_whole {l : Launch} {Z : ZZ} {μ : Mm} {a0 : Nat} {a1 : Int32} {a2 : Nat} {r : Int32} {μ' : Mm} (k0 : (zk Z a0).1 = 5) (k2 : (zk Z a2).1 = 12) (h : f_L_whole (zk Z) μ a0 a1 a2 = some (r, μ')) : CtW l Z yL_whole cL_whole 4 (some .int) [(0, 9, 12, 13)] 4 0 0 [.ref (za Z a0), .int a1, .ref (za Z a2)] μ (some (.int r)) Z μ' := ctw_of rfl rfl (Nat.le_of_ble_eq_true rfl) (fun X C E _ => t_L_whole μ a0 a1 a2 r μ' k0 k2 h C E)

set_option maxRecDepth 100000 in
set_option maxHeartbeats 4000000 in
theorem ctx2_L_whole {l : Launch} {Z : ZZ} {μ : Mm} {a0 : Nat} {a1 : Int32} {a2 : Nat} {μ9 : Mm} (k0 : (zk Z a0).1 = 5) (k2 : (zk Z a2).1 = 12) (hl : l.stackTraces = false) (h : fx_X7_whole (zk Z) μ a0 a1 = some (2, μ9)) : CtW l Z yL_whole cL_whole 4 (some .int) [(0, 9, 12, 13)] 8 1 6 [.ref (za Z a0), .int a1, .ref (za Z a2)] μ (some (.int 1)) Z μ9 := by
  refine ctw_of rfl rfl (Nat.le_of_ble_eq_true rfl) (fun X C E htab => ?_)
  show G Z X 4 0 0 0 [(0, .ref (za Z a0)), (1, .int a1), (2, .ref (za Z a2))] [] μ
  refine g_aload_n C (i := 2) 2 rfl rfl (dk kL_whole 0 rfl) ?_
  refine g_iconst C (v := 0) (by decide) (dk kL_whole 1 rfl) ?_
  refine g_aload_n C (i := 0) 0 rfl rfl (dk kL_whole 2 rfl) ?_
  refine g_iload_n C (i := 1) 1 rfl rfl (dk kL_whole 3 rfl) ?_
  refine gx_catchV (E := "java/lang/IllegalArgumentException") C E.2 (rest := [.int 0, .ref (za Z a2)]) 1 (by have q := ctx_X7_whole k0 hl h (by decide); exact q) wd_4_170 mm_X7_whole ⟨rfl, by decide, by decide, by decide⟩ rfl (by decide) k0 (by decide) rfl rfl (Nat.le_of_ble_eq_true rfl) (by decide) (dk kL_whole 4 rfl) htab [] [] ⟨0, 9, 12, 13⟩ rfl (fun z hz => by cases hz) (by decide) (by decide) wd_4_22 (List.mem_of_getElem? (i := 1) rfl) (fun q => ?_)
  refine g_astore_n C (i := 3) (lv' := [(3, .ref q), (0, .ref (za Z a0)), (1, .int a1), (2, .ref (za Z a2))]) (dk kL_whole 8 rfl) rfl (by decide) rfl ?_
  refine g_iconst C (v := 1) (by decide) (dk kL_whole 9 rfl) ?_
  exact g_iret C E rfl rfl (by decide) (by decide) (dk kL_whole 10 rfl)
