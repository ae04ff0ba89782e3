def qL_begins : List (Nat × Instr × Nat) := [(0, .aload_n 0, 1), (1, .iload_n 1, 1), (2, .invokevirtual 9, 3), (5, .ireturn, 1), (6, .astore_n 2, 1), (7, .ldc 17, 2), (9, .ireturn, 1)]
theorem kL_begins : ∀ q ∈ qL_begins, decode cL_begins q.1 = .ok q.2 := by decide +kernel
def f_L_begins (K : Nat → Nat × Nat) (μ : Mm) (a0 : Nat) (a1 : Int32) : Option (Int32 × Mm) :=
  bd (f_X7_begin K μ a0 a1) fun q1 => lt1 q1.1 fun x3 => lt1 q1.2 fun μ2 => some (x3, μ2)
set_option maxRecDepth 100000 in
set_option maxHeartbeats 4000000 in
theorem t_L_begins {l : Launch} {Z : ZZ} {X : XX} (μ : Mm) (a0 : Nat) (a1 : Int32) (r : Int32) (μ' : Mm) (k0 : (zk Z a0).1 = 5) (h : f_L_begins (zk Z) μ a0 a1 = some (r, μ')) (C : Cx l Z false X cL_begins RL 3 (some .int)) (E : Ex Z X 5 0 0 (some (.int r)) Z μ') : G Z X 3 0 0 0 [(0, .ref (za Z a0)), (1, .int a1)] [] μ := by
  unfold f_L_begins at h
  refine g_aload_n C (i := 0) 0 rfl rfl (dk kL_begins 0 rfl) ?_
  refine g_iload_n C (i := 1) 1 rfl rfl (dk kL_begins 1 rfl) ?_
  obtain ⟨q1, eq1, h⟩ := bd_inv h
  obtain ⟨x3, ex3, h⟩ := lt_inv h
  obtain ⟨μ2, eμ2, h⟩ := lt_inv h
  rw [show q1 = (x3, μ2) from by rw [ex3, eμ2]] at eq1
  refine g_callV C E.2 (rest := []) 1 (ct_X7_begin k0 eq1) wd_1_216 mm_X7_begin ⟨rfl, by decide, by decide, by decide⟩ rfl (by decide) k0 (by decide) rfl rfl (Nat.le_of_ble_eq_true rfl) (by decide) (dk kL_begins 2 rfl) ?_
  obtain ⟨h8, h9⟩ := Prod.mk.inj (Option.some.inj h)
  subst h8
  subst h9
  exact g_iret C E rfl rfl (Nat.le_refl 0) (Nat.le_refl 0) (dk kL_begins 3 rfl)
theorem ct_L_begins {l : Launch} {Z : ZZ} {μ : Mm} {a0 : Nat} {a1 : Int32} {r : Int32} {μ' : Mm} (k0 : (zk Z a0).1 = 5) (h : f_L_begins (zk Z) μ a0 a1 = some (r, μ')) : CtW l Z yL_begins cL_begins 3 (some .int) [(0, 5, 6, 15)] 5 0 0 [.ref (za Z a0), .int a1] μ (some (.int r)) Z μ' := ctw_of rfl rfl (Nat.le_of_ble_eq_true rfl) (fun X C E _ => t_L_begins μ a0 a1 r μ' k0 h C E)

set_option maxRecDepth 100000 in
set_option maxHeartbeats 4000000 in
theorem ctx2_L_begins {l : Launch} {Z : ZZ} {μ : Mm} {a0 : Nat} {a1 : Int32} {μ9 : Mm} (k0 : (zk Z a0).1 = 5) (hl : l.stackTraces = false) (h : fx_X7_begin (zk Z) μ a0 a1 = some (2, μ9)) : CtW l Z yL_begins cL_begins 3 (some .int) [(0, 5, 6, 15)] 8 1 6 [.ref (za Z a0), .int a1] μ (some (.int (-2000002))) Z μ9 := by
  refine ctw_of rfl rfl (Nat.le_of_ble_eq_true rfl) (fun X C E htab => ?_)
  show G Z X 3 0 0 0 [(0, .ref (za Z a0)), (1, .int a1)] [] μ
  refine g_aload_n C (i := 0) 0 rfl rfl (dk kL_begins 0 rfl) ?_
  refine g_iload_n C (i := 1) 1 rfl rfl (dk kL_begins 1 rfl) ?_
  refine gx_catchV (E := "java/lang/IllegalArgumentException") C E.2 (rest := []) 1 (by have q := ctx_X7_begin k0 hl h (by decide); exact q) wd_1_216 mm_X7_begin ⟨rfl, by decide, by decide, by decide⟩ rfl (by decide) k0 (by decide) rfl rfl (Nat.le_of_ble_eq_true rfl) (by decide) (dk kL_begins 2 rfl) htab [] [] ⟨0, 5, 6, 15⟩ rfl (fun z hz => by cases hz) (by decide) (by decide) wd_1_215 (List.mem_of_getElem? (i := 1) rfl) (fun q => ?_)
  refine g_astore_n C (i := 2) (lv' := [(2, .ref q), (0, .ref (za Z a0)), (1, .int a1)]) (dk kL_begins 4 rfl) rfl (by decide) rfl ?_
  refine g_ldc C (v := (-2000002)) (C.w wd_2_133) (dk kL_begins 5 rfl) ?_
  exact g_iret C E rfl rfl (by decide) (by decide) (dk kL_begins 6 rfl)

def qL_bests : List (Nat × Instr × Nat) := [(0, .aload_n 0, 1), (1, .iload_n 1, 1), (2, .iload_n 2, 1), (3, .invokevirtual 54, 3), (6, .ireturn, 1), (7, .astore_n 3, 1), (8, .ldc 34, 2), (10, .ireturn, 1), (11, .astore_n 3, 1), (12, .ldc 27, 2), (14, .ireturn, 1)]
theorem kL_bests : ∀ q ∈ qL_bests, decode cL_bests q.1 = .ok q.2 := by decide +kernel
def f_L_bests (K : Nat → Nat × Nat) (μ : Mm) (a0 : Nat) (a1 : Int32) (a2 : Int32) : Option (Int32 × Mm) :=
  bd (f_X7_printBest K μ a0 a1 a2) fun q1 => lt1 q1.1 fun x3 => lt1 q1.2 fun μ2 => some (x3, μ2)
set_option maxRecDepth 100000 in
set_option maxHeartbeats 4000000 in
theorem t_L_bests {l : Launch} {Z : ZZ} {X : XX} (μ : Mm) (a0 : Nat) (a1 : Int32) (a2 : Int32) (r : Int32) (μ' : Mm) (k0 : (zk Z a0).1 = 5) (h : f_L_bests (zk Z) μ a0 a1 a2 = some (r, μ')) (C : Cx l Z false X cL_bests RL 4 (some .int)) (E : Ex Z X 6 0 0 (some (.int r)) Z μ') : G Z X 4 0 0 0 [(0, .ref (za Z a0)), (1, .int a1), (2, .int a2)] [] μ := by
  unfold f_L_bests at h
  refine g_aload_n C (i := 0) 0 rfl rfl (dk kL_bests 0 rfl) ?_
  refine g_iload_n C (i := 1) 1 rfl rfl (dk kL_bests 1 rfl) ?_
  refine g_iload_n C (i := 2) 2 rfl rfl (dk kL_bests 2 rfl) ?_
  obtain ⟨q1, eq1, h⟩ := bd_inv h
  obtain ⟨x3, ex3, h⟩ := lt_inv h
  obtain ⟨μ2, eμ2, h⟩ := lt_inv h
  rw [show q1 = (x3, μ2) from by rw [ex3, eμ2]] at eq1
  refine g_callV C E.2 (rest := []) 2 (ct_X7_printBest k0 eq1) wd_3_139 mm_X7_printBest ⟨rfl, by decide, by decide, by decide⟩ rfl (by decide) k0 (by decide) rfl rfl (Nat.le_of_ble_eq_true rfl) (by decide) (dk kL_bests 3 rfl) ?_
  obtain ⟨h8, h9⟩ := Prod.mk.inj (Option.some.inj h)
  subst h8
  subst h9
  exact g_iret C E rfl rfl (Nat.le_refl 0) (Nat.le_refl 0) (dk kL_bests 4 rfl)
theorem ct_L_bests {l : Launch} {Z : ZZ} {μ : Mm} {a0 : Nat} {a1 : Int32} {a2 : Int32} {r : Int32} {μ' : Mm} (k0 : (zk Z a0).1 = 5) (h : f_L_bests (zk Z) μ a0 a1 a2 = some (r, μ')) : CtW l Z yL_bests cL_bests 4 (some .int) [(0, 6, 7, 32), (0, 6, 11, 25)] 6 0 0 [.ref (za Z a0), .int a1, .int a2] μ (some (.int r)) Z μ' := ctw_of rfl rfl (Nat.le_of_ble_eq_true rfl) (fun X C E _ => t_L_bests μ a0 a1 a2 r μ' k0 h C E)

set_option maxRecDepth 100000 in
set_option maxHeartbeats 4000000 in
theorem ctx1_L_bests {l : Launch} {Z : ZZ} {μ : Mm} {a0 : Nat} {a1 : Int32} {a2 : Int32} {μ9 : Mm} (k0 : (zk Z a0).1 = 5) (hl : l.stackTraces = false) (h : fx_X7_printBest (zk Z) μ a0 a1 a2 = some (1, μ9)) : CtW l Z yL_bests cL_bests 4 (some .int) [(0, 6, 7, 32), (0, 6, 11, 25)] 8 1 6 [.ref (za Z a0), .int a1, .int a2] μ (some (.int (-2000001))) Z μ9 := by
  refine ctw_of rfl rfl (Nat.le_of_ble_eq_true rfl) (fun X C E htab => ?_)
  show G Z X 4 0 0 0 [(0, .ref (za Z a0)), (1, .int a1), (2, .int a2)] [] μ
  refine g_aload_n C (i := 0) 0 rfl rfl (dk kL_bests 0 rfl) ?_
  refine g_iload_n C (i := 1) 1 rfl rfl (dk kL_bests 1 rfl) ?_
  refine g_iload_n C (i := 2) 2 rfl rfl (dk kL_bests 2 rfl) ?_
  refine gx_catchV (E := "java/lang/IndexOutOfBoundsException") C E.2 (rest := []) 2 (by have q := ctx_X7_printBest k0 hl h (by decide); exact q) wd_3_139 mm_X7_printBest ⟨rfl, by decide, by decide, by decide⟩ rfl (by decide) k0 (by decide) rfl rfl (Nat.le_of_ble_eq_true rfl) (by decide) (dk kL_bests 3 rfl) htab [] [⟨0, 6, 11, 25⟩] ⟨0, 6, 7, 32⟩ rfl (fun z hz => by cases hz) (by decide) (by decide) wd_2_173 (List.mem_of_getElem? (i := 0) rfl) (fun q => ?_)
  refine g_astore_n C (i := 3) (lv' := [(3, .ref q), (0, .ref (za Z a0)), (1, .int a1), (2, .int a2)]) (dk kL_bests 5 rfl) rfl (by decide) rfl ?_
  refine g_ldc C (v := (-2000001)) (C.w wd_2_194) (dk kL_bests 6 rfl) ?_
  exact g_iret C E rfl rfl (by decide) (by decide) (dk kL_bests 7 rfl)

set_option maxRecDepth 100000 in
set_option maxHeartbeats 4000000 in
theorem ctx3_L_bests {l : Launch} {Z : ZZ} {μ : Mm} {a0 : Nat} {a1 : Int32} {a2 : Int32} {μ9 : Mm} (k0 : (zk Z a0).1 = 5) (hl : l.stackTraces = false) (h : fx_X7_printBest (zk Z) μ a0 a1 a2 = some (3, μ9)) : CtW l Z yL_bests cL_bests 4 (some .int) [(0, 6, 7, 32), (0, 6, 11, 25)] 8 1 6 [.ref (za Z a0), .int a1, .int a2] μ (some (.int (-2000003))) Z μ9 := by
  refine ctw_of rfl rfl (Nat.le_of_ble_eq_true rfl) (fun X C E htab => ?_)
  show G Z X 4 0 0 0 [(0, .ref (za Z a0)), (1, .int a1), (2, .int a2)] [] μ
  refine g_aload_n C (i := 0) 0 rfl rfl (dk kL_bests 0 rfl) ?_
  refine g_iload_n C (i := 1) 1 rfl rfl (dk kL_bests 1 rfl) ?_
  refine g_iload_n C (i := 2) 2 rfl rfl (dk kL_bests 2 rfl) ?_
  refine gx_catchV (E := "java/lang/IllegalStateException") C E.2 (rest := []) 2 (by have q := ctx_X7_printBest k0 hl h (by decide); exact q) wd_3_139 mm_X7_printBest ⟨rfl, by decide, by decide, by decide⟩ rfl (by decide) k0 (by decide) rfl rfl (Nat.le_of_ble_eq_true rfl) (by decide) (dk kL_bests 3 rfl) htab [⟨0, 6, 7, 32⟩] [] ⟨0, 6, 11, 25⟩ rfl (fun z hz => by rcases List.mem_cons.mp hz with rfl | hz; exact ⟨by decide, "java/lang/IndexOutOfBoundsException", wd_2_173, List.mem_of_getElem? (i := 1) rfl⟩; cases hz) (by decide) (by decide) wd_2_156 (List.mem_of_getElem? (i := 2) rfl) (fun q => ?_)
  refine g_astore_n C (i := 3) (lv' := [(3, .ref q), (0, .ref (za Z a0)), (1, .int a1), (2, .int a2)]) (dk kL_bests 8 rfl) rfl (by decide) rfl ?_
  refine g_ldc C (v := (-2000003)) (C.w wd_2_169) (dk kL_bests 9 rfl) ?_
  exact g_iret C E rfl rfl (by decide) (by decide) (dk kL_bests 10 rfl)

def qL_cools : List (Nat × Instr × Nat) := [(0, .aload_n 0, 1), (1, .iload_n 1, 1), (2, .invokevirtual 38, 3), (5, .ireturn, 1), (6, .astore_n 2, 1), (7, .ldc 17, 2), (9, .ireturn, 1)]
theorem kL_cools : ∀ q ∈ qL_cools, decode cL_cools q.1 = .ok q.2 := by decide +kernel
def f_L_cools (K : Nat → Nat × Nat) (μ : Mm) (a0 : Nat) (a1 : Int32) : Option (Int32 × Mm) :=
  bd (f_X7_cool K μ a0 a1) fun q1 => lt1 q1.1 fun x3 => lt1 q1.2 fun μ2 => some (x3, μ2)
set_option maxRecDepth 100000 in
set_option maxHeartbeats 4000000 in
theorem t_L_cools {l : Launch} {Z : ZZ} {X : XX} (μ : Mm) (a0 : Nat) (a1 : Int32) (r : Int32) (μ' : Mm) (k0 : (zk Z a0).1 = 5) (h : f_L_cools (zk Z) μ a0 a1 = some (r, μ')) (C : Cx l Z false X cL_cools RL 3 (some .int)) (E : Ex Z X 5 0 0 (some (.int r)) Z μ') : G Z X 3 0 0 0 [(0, .ref (za Z a0)), (1, .int a1)] [] μ := by
  unfold f_L_cools at h
  refine g_aload_n C (i := 0) 0 rfl rfl (dk kL_cools 0 rfl) ?_
  refine g_iload_n C (i := 1) 1 rfl rfl (dk kL_cools 1 rfl) ?_
  obtain ⟨q1, eq1, h⟩ := bd_inv h
  obtain ⟨x3, ex3, h⟩ := lt_inv h
  obtain ⟨μ2, eμ2, h⟩ := lt_inv h
  rw [show q1 = (x3, μ2) from by rw [ex3, eμ2]] at eq1
  refine g_callV C E.2 (rest := []) 1 (ct_X7_cool k0 eq1) wd_2_218 mm_X7_cool ⟨rfl, by decide, by decide, by decide⟩ rfl (by decide) k0 (by decide) rfl rfl (Nat.le_of_ble_eq_true rfl) (by decide) (dk kL_cools 2 rfl) ?_
  obtain ⟨h8, h9⟩ := Prod.mk.inj (Option.some.inj h)
  subst h8
  subst h9
  exact g_iret C E rfl rfl (Nat.le_refl 0) (Nat.le_refl 0) (dk kL_cools 3 rfl)
theorem ct_L_cools {l : Launch} {Z : ZZ} {μ : Mm} {a0 : Nat} {a1 : Int32} {r : Int32} {μ' : Mm} (k0 : (zk Z a0).1 = 5) (h : f_L_cools (zk Z) μ a0 a1 = some (r, μ')) : CtW l Z yL_cools cL_cools 3 (some .int) [(0, 5, 6, 15)] 5 0 0 [.ref (za Z a0), .int a1] μ (some (.int r)) Z μ' := ctw_of rfl rfl (Nat.le_of_ble_eq_true rfl) (fun X C E _ => t_L_cools μ a0 a1 r μ' k0 h C E)

set_option maxRecDepth 100000 in
set_option maxHeartbeats 4000000 in
theorem ctx2_L_cools {l : Launch} {Z : ZZ} {μ : Mm} {a0 : Nat} {a1 : Int32} {μ9 : Mm} (k0 : (zk Z a0).1 = 5) (hl : l.stackTraces = false) (h : fx_X7_cool (zk Z) μ a0 a1 = some (2, μ9)) : CtW l Z yL_cools cL_cools 3 (some .int) [(0, 5, 6, 15)] 8 1 6 [.ref (za Z a0), .int a1] μ (some (.int (-2000002))) Z μ9 := by
  refine ctw_of rfl rfl (Nat.le_of_ble_eq_true rfl) (fun X C E htab => ?_)
  show G Z X 3 0 0 0 [(0, .ref (za Z a0)), (1, .int a1)] [] μ
  refine g_aload_n C (i := 0) 0 rfl rfl (dk kL_cools 0 rfl) ?_
  refine g_iload_n C (i := 1) 1 rfl rfl (dk kL_cools 1 rfl) ?_
  refine gx_catchV (E := "java/lang/IllegalArgumentException") C E.2 (rest := []) 1 (by have q := ctx_X7_cool k0 hl h (by decide); exact q) wd_2_218 mm_X7_cool ⟨rfl, by decide, by decide, by decide⟩ rfl (by decide) k0 (by decide) rfl rfl (Nat.le_of_ble_eq_true rfl) (by decide) (dk kL_cools 2 rfl) htab [] [] ⟨0, 5, 6, 15⟩ rfl (fun z hz => by cases hz) (by decide) (by decide) wd_1_215 (List.mem_of_getElem? (i := 1) rfl) (fun q => ?_)
  refine g_astore_n C (i := 2) (lv' := [(2, .ref q), (0, .ref (za Z a0)), (1, .int a1)]) (dk kL_cools 4 rfl) rfl (by decide) rfl ?_
  refine g_ldc C (v := (-2000002)) (C.w wd_2_133) (dk kL_cools 5 rfl) ?_
  exact g_iret C E rfl rfl (by decide) (by decide) (dk kL_cools 6 rfl)

def qL_customerOf : List (Nat × Instr × Nat) := [(0, .aload_n 0, 1), (1, .iload_n 1, 1), (2, .iload_n 2, 1), (3, .invokevirtual 159, 3), (6, .ireturn, 1), (7, .astore_n 3, 1), (8, .ldc 34, 2), (10, .ireturn, 1), (11, .astore_n 3, 1), (12, .ldc 17, 2), (14, .ireturn, 1)]
theorem kL_customerOf : ∀ q ∈ qL_customerOf, decode cL_customerOf q.1 = .ok q.2 := by decide +kernel
def f_L_customerOf (K : Nat → Nat × Nat) (μ : Mm) (a0 : Nat) (a1 : Int32) (a2 : Int32) : Option (Int32) :=
  bd (f_X7_customer K μ a0 a1 a2) fun x2 => some x2
set_option maxRecDepth 100000 in
set_option maxHeartbeats 4000000 in
theorem t_L_customerOf {l : Launch} {Z : ZZ} {X : XX} (μ : Mm) (a0 : Nat) (a1 : Int32) (a2 : Int32) (r : Int32) (k0 : (zk Z a0).1 = 5) (h : f_L_customerOf (zk Z) μ a0 a1 a2 = some r) (C : Cx l Z false X cL_customerOf RL 4 (some .int)) (E : Ex Z X 3 0 0 (some (.int r)) Z μ) : G Z X 4 0 0 0 [(0, .ref (za Z a0)), (1, .int a1), (2, .int a2)] [] μ := by
  unfold f_L_customerOf at h
  refine g_aload_n C (i := 0) 0 rfl rfl (dk kL_customerOf 0 rfl) ?_
  refine g_iload_n C (i := 1) 1 rfl rfl (dk kL_customerOf 1 rfl) ?_
  refine g_iload_n C (i := 2) 2 rfl rfl (dk kL_customerOf 2 rfl) ?_
  obtain ⟨x2, eq1, h⟩ := bd_inv h
  refine g_callV C E.2 (rest := []) 2 (ct_X7_customer k0 eq1) wd_4_32 mm_X7_customer ⟨rfl, by decide, by decide, by decide⟩ rfl (by decide) k0 (by decide) rfl rfl (Nat.le_of_ble_eq_true rfl) (by decide) (dk kL_customerOf 3 rfl) ?_
  have h9 := Option.some.inj h
  subst h9
  exact g_iret C E rfl rfl (Nat.le_refl 0) (Nat.le_refl 0) (dk kL_customerOf 4 rfl)
theorem ct_L_customerOf {l : Launch} {Z : ZZ} {μ : Mm} {a0 : Nat} {a1 : Int32} {a2 : Int32} {r : Int32} (k0 : (zk Z a0).1 = 5) (h : f_L_customerOf (zk Z) μ a0 a1 a2 = some r) : CtW l Z yL_customerOf cL_customerOf 4 (some .int) [(0, 6, 7, 32), (0, 6, 11, 15)] 3 0 0 [.ref (za Z a0), .int a1, .int a2] μ (some (.int r)) Z μ := ctw_of rfl rfl (Nat.le_of_ble_eq_true rfl) (fun X C E _ => t_L_customerOf μ a0 a1 a2 r k0 h C E)

set_option maxRecDepth 100000 in
set_option maxHeartbeats 4000000 in
theorem ctx1_L_customerOf {l : Launch} {Z : ZZ} {μ : Mm} {a0 : Nat} {a1 : Int32} {a2 : Int32} (k0 : (zk Z a0).1 = 5) (hl : l.stackTraces = false) (h : fx_X7_customer (zk Z) μ a0 a1 a2 = some 1) : CtW l Z yL_customerOf cL_customerOf 4 (some .int) [(0, 6, 7, 32), (0, 6, 11, 15)] 8 1 6 [.ref (za Z a0), .int a1, .int a2] μ (some (.int (-2000001))) Z μ := by
  refine ctw_of rfl rfl (Nat.le_of_ble_eq_true rfl) (fun X C E htab => ?_)
  show G Z X 4 0 0 0 [(0, .ref (za Z a0)), (1, .int a1), (2, .int a2)] [] μ
  refine g_aload_n C (i := 0) 0 rfl rfl (dk kL_customerOf 0 rfl) ?_
  refine g_iload_n C (i := 1) 1 rfl rfl (dk kL_customerOf 1 rfl) ?_
  refine g_iload_n C (i := 2) 2 rfl rfl (dk kL_customerOf 2 rfl) ?_
  refine gx_catchV (E := "java/lang/IndexOutOfBoundsException") C E.2 (rest := []) 2 (by have q := ctx_X7_customer k0 hl h (by decide); exact q) wd_4_32 mm_X7_customer ⟨rfl, by decide, by decide, by decide⟩ rfl (by decide) k0 (by decide) rfl rfl (Nat.le_of_ble_eq_true rfl) (by decide) (dk kL_customerOf 3 rfl) htab [] [⟨0, 6, 11, 15⟩] ⟨0, 6, 7, 32⟩ rfl (fun z hz => by cases hz) (by decide) (by decide) wd_2_173 (List.mem_of_getElem? (i := 0) rfl) (fun q => ?_)
  refine g_astore_n C (i := 3) (lv' := [(3, .ref q), (0, .ref (za Z a0)), (1, .int a1), (2, .int a2)]) (dk kL_customerOf 5 rfl) rfl (by decide) rfl ?_
  refine g_ldc C (v := (-2000001)) (C.w wd_2_194) (dk kL_customerOf 6 rfl) ?_
  exact g_iret C E rfl rfl (by decide) (by decide) (dk kL_customerOf 7 rfl)

set_option maxRecDepth 100000 in
set_option maxHeartbeats 4000000 in
theorem ctx2_L_customerOf {l : Launch} {Z : ZZ} {μ : Mm} {a0 : Nat} {a1 : Int32} {a2 : Int32} (k0 : (zk Z a0).1 = 5) (hl : l.stackTraces = false) (h : fx_X7_customer (zk Z) μ a0 a1 a2 = some 2) : CtW l Z yL_customerOf cL_customerOf 4 (some .int) [(0, 6, 7, 32), (0, 6, 11, 15)] 8 1 6 [.ref (za Z a0), .int a1, .int a2] μ (some (.int (-2000002))) Z μ := by
  refine ctw_of rfl rfl (Nat.le_of_ble_eq_true rfl) (fun X C E htab => ?_)
  show G Z X 4 0 0 0 [(0, .ref (za Z a0)), (1, .int a1), (2, .int a2)] [] μ
  refine g_aload_n C (i := 0) 0 rfl rfl (dk kL_customerOf 0 rfl) ?_
  refine g_iload_n C (i := 1) 1 rfl rfl (dk kL_customerOf 1 rfl) ?_
  refine g_iload_n C (i := 2) 2 rfl rfl (dk kL_customerOf 2 rfl) ?_
  refine gx_catchV (E := "java/lang/IllegalArgumentException") C E.2 (rest := []) 2 (by have q := ctx_X7_customer k0 hl h (by decide); exact q) wd_4_32 mm_X7_customer ⟨rfl, by decide, by decide, by decide⟩ rfl (by decide) k0 (by decide) rfl rfl (Nat.le_of_ble_eq_true rfl) (by decide) (dk kL_customerOf 3 rfl) htab [⟨0, 6, 7, 32⟩] [] ⟨0, 6, 11, 15⟩ rfl (fun z hz => by rcases List.mem_cons.mp hz with rfl | hz; exact ⟨by decide, "java/lang/IndexOutOfBoundsException", wd_2_173, List.mem_of_getElem? (i := 0) rfl⟩; cases hz) (by decide) (by decide) wd_1_215 (List.mem_of_getElem? (i := 1) rfl) (fun q => ?_)
  refine g_astore_n C (i := 3) (lv' := [(3, .ref q), (0, .ref (za Z a0)), (1, .int a1), (2, .int a2)]) (dk kL_customerOf 8 rfl) rfl (by decide) rfl ?_
  refine g_ldc C (v := (-2000002)) (C.w wd_2_133) (dk kL_customerOf 9 rfl) ?_
  exact g_iret C E rfl rfl (by decide) (by decide) (dk kL_customerOf 10 rfl)

def qL_customers : List (Nat × Instr × Nat) := [(0, .aload_n 0, 1), (1, .invokevirtual 41, 3), (4, .ireturn, 1), (5, .astore_n 1, 1), (6, .ldc 27, 2), (8, .ireturn, 1)]
theorem kL_customers : ∀ q ∈ qL_customers, decode cL_customers q.1 = .ok q.2 := by decide +kernel
def f_L_customers (K : Nat → Nat × Nat) (μ : Mm) (a0 : Nat) : Option (Int32 × Mm) :=
  bd (f_X7_addCustomer K μ a0) fun q1 => lt1 q1.1 fun x3 => lt1 q1.2 fun μ2 => some (x3, μ2)
set_option maxRecDepth 100000 in
set_option maxHeartbeats 4000000 in
theorem t_L_customers {l : Launch} {Z : ZZ} {X : XX} (μ : Mm) (a0 : Nat) (r : Int32) (μ' : Mm) (k0 : (zk Z a0).1 = 5) (h : f_L_customers (zk Z) μ a0 = some (r, μ')) (C : Cx l Z false X cL_customers RL 2 (some .int)) (E : Ex Z X 5 0 0 (some (.int r)) Z μ') : G Z X 2 0 0 0 [(0, .ref (za Z a0))] [] μ := by
  unfold f_L_customers at h
  refine g_aload_n C (i := 0) 0 rfl rfl (dk kL_customers 0 rfl) ?_
  obtain ⟨q1, eq1, h⟩ := bd_inv h
  obtain ⟨x3, ex3, h⟩ := lt_inv h
  obtain ⟨μ2, eμ2, h⟩ := lt_inv h
  rw [show q1 = (x3, μ2) from by rw [ex3, eμ2]] at eq1
  refine g_callV C E.2 (rest := []) 0 (ct_X7_addCustomer k0 eq1) wd_3_1 mm_X7_addCustomer ⟨rfl, by decide, by decide, by decide⟩ rfl (by decide) k0 (by decide) rfl rfl (Nat.le_of_ble_eq_true rfl) (by decide) (dk kL_customers 1 rfl) ?_
  obtain ⟨h8, h9⟩ := Prod.mk.inj (Option.some.inj h)
  subst h8
  subst h9
  exact g_iret C E rfl rfl (Nat.le_refl 0) (Nat.le_refl 0) (dk kL_customers 2 rfl)
theorem ct_L_customers {l : Launch} {Z : ZZ} {μ : Mm} {a0 : Nat} {r : Int32} {μ' : Mm} (k0 : (zk Z a0).1 = 5) (h : f_L_customers (zk Z) μ a0 = some (r, μ')) : CtW l Z yL_customers cL_customers 2 (some .int) [(0, 4, 5, 25)] 5 0 0 [.ref (za Z a0)] μ (some (.int r)) Z μ' := ctw_of rfl rfl (Nat.le_of_ble_eq_true rfl) (fun X C E _ => t_L_customers μ a0 r μ' k0 h C E)

set_option maxRecDepth 100000 in
set_option maxHeartbeats 4000000 in
theorem ctx3_L_customers {l : Launch} {Z : ZZ} {μ : Mm} {a0 : Nat} {μ9 : Mm} (k0 : (zk Z a0).1 = 5) (hl : l.stackTraces = false) (h : fx_X7_addCustomer (zk Z) μ a0 = some (3, μ9)) : CtW l Z yL_customers cL_customers 2 (some .int) [(0, 4, 5, 25)] 8 1 6 [.ref (za Z a0)] μ (some (.int (-2000003))) Z μ9 := by
  refine ctw_of rfl rfl (Nat.le_of_ble_eq_true rfl) (fun X C E htab => ?_)
  show G Z X 2 0 0 0 [(0, .ref (za Z a0))] [] μ
  refine g_aload_n C (i := 0) 0 rfl rfl (dk kL_customers 0 rfl) ?_
  refine gx_catchV (E := "java/lang/IllegalStateException") C E.2 (rest := []) 0 (by have q := ctx_X7_addCustomer k0 hl h (by decide); exact q) wd_3_1 mm_X7_addCustomer ⟨rfl, by decide, by decide, by decide⟩ rfl (by decide) k0 (by decide) rfl rfl (Nat.le_of_ble_eq_true rfl) (by decide) (dk kL_customers 1 rfl) htab [] [] ⟨0, 4, 5, 25⟩ rfl (fun z hz => by cases hz) (by decide) (by decide) wd_2_156 (List.mem_of_getElem? (i := 2) rfl) (fun q => ?_)
  refine g_astore_n C (i := 1) (lv' := [(1, .ref q), (0, .ref (za Z a0))]) (dk kL_customers 3 rfl) rfl (by decide) rfl ?_
  refine g_ldc C (v := (-2000003)) (C.w wd_2_169) (dk kL_customers 4 rfl) ?_
  exact g_iret C E rfl rfl (by decide) (by decide) (dk kL_customers 5 rfl)

def qL_dotOf : List (Nat × Instr × Nat) := [(0, .aload_n 0, 1), (1, .iload_n 1, 1), (2, .iload_n 2, 1), (3, .invokevirtual 150, 3), (6, .ireturn, 1), (7, .astore_n 3, 1), (8, .ldc 34, 2), (10, .ireturn, 1), (11, .astore_n 3, 1), (12, .ldc 17, 2), (14, .ireturn, 1)]
theorem kL_dotOf : ∀ q ∈ qL_dotOf, decode cL_dotOf q.1 = .ok q.2 := by decide +kernel
def f_L_dotOf (K : Nat → Nat × Nat) (μ : Mm) (a0 : Nat) (a1 : Int32) (a2 : Int32) : Option (Int32) :=
  bd (f_X7_dot K μ a0 a1 a2) fun x2 => some x2
set_option maxRecDepth 100000 in
set_option maxHeartbeats 4000000 in
theorem t_L_dotOf {l : Launch} {Z : ZZ} {X : XX} (μ : Mm) (a0 : Nat) (a1 : Int32) (a2 : Int32) (r : Int32) (k0 : (zk Z a0).1 = 5) (h : f_L_dotOf (zk Z) μ a0 a1 a2 = some r) (C : Cx l Z false X cL_dotOf RL 4 (some .int)) (E : Ex Z X 4 0 0 (some (.int r)) Z μ) : G Z X 4 0 0 0 [(0, .ref (za Z a0)), (1, .int a1), (2, .int a2)] [] μ := by
  unfold f_L_dotOf at h
  refine g_aload_n C (i := 0) 0 rfl rfl (dk kL_dotOf 0 rfl) ?_
  refine g_iload_n C (i := 1) 1 rfl rfl (dk kL_dotOf 1 rfl) ?_
  refine g_iload_n C (i := 2) 2 rfl rfl (dk kL_dotOf 2 rfl) ?_
  obtain ⟨x2, eq1, h⟩ := bd_inv h
  refine g_callV C E.2 (rest := []) 2 (ct_X7_dot k0 eq1) wd_3_198 mm_X7_dot ⟨rfl, by decide, by decide, by decide⟩ rfl (by decide) k0 (by decide) rfl rfl (Nat.le_of_ble_eq_true rfl) (by decide) (dk kL_dotOf 3 rfl) ?_
  have h9 := Option.some.inj h
  subst h9
  exact g_iret C E rfl rfl (Nat.le_refl 0) (Nat.le_refl 0) (dk kL_dotOf 4 rfl)
theorem ct_L_dotOf {l : Launch} {Z : ZZ} {μ : Mm} {a0 : Nat} {a1 : Int32} {a2 : Int32} {r : Int32} (k0 : (zk Z a0).1 = 5) (h : f_L_dotOf (zk Z) μ a0 a1 a2 = some r) : CtW l Z yL_dotOf cL_dotOf 4 (some .int) [(0, 6, 7, 32), (0, 6, 11, 15)] 4 0 0 [.ref (za Z a0), .int a1, .int a2] μ (some (.int r)) Z μ := ctw_of rfl rfl (Nat.le_of_ble_eq_true rfl) (fun X C E _ => t_L_dotOf μ a0 a1 a2 r k0 h C E)

set_option maxRecDepth 100000 in
set_option maxHeartbeats 4000000 in
theorem ctx1_L_dotOf {l : Launch} {Z : ZZ} {μ : Mm} {a0 : Nat} {a1 : Int32} {a2 : Int32} (k0 : (zk Z a0).1 = 5) (hl : l.stackTraces = false) (h : fx_X7_dot (zk Z) μ a0 a1 a2 = some 1) : CtW l Z yL_dotOf cL_dotOf 4 (some .int) [(0, 6, 7, 32), (0, 6, 11, 15)] 8 1 6 [.ref (za Z a0), .int a1, .int a2] μ (some (.int (-2000001))) Z μ := by
  refine ctw_of rfl rfl (Nat.le_of_ble_eq_true rfl) (fun X C E htab => ?_)
  show G Z X 4 0 0 0 [(0, .ref (za Z a0)), (1, .int a1), (2, .int a2)] [] μ
  refine g_aload_n C (i := 0) 0 rfl rfl (dk kL_dotOf 0 rfl) ?_
  refine g_iload_n C (i := 1) 1 rfl rfl (dk kL_dotOf 1 rfl) ?_
  refine g_iload_n C (i := 2) 2 rfl rfl (dk kL_dotOf 2 rfl) ?_
  refine gx_catchV (E := "java/lang/IndexOutOfBoundsException") C E.2 (rest := []) 2 (by have q := ctx_X7_dot k0 hl h (by decide); exact q) wd_3_198 mm_X7_dot ⟨rfl, by decide, by decide, by decide⟩ rfl (by decide) k0 (by decide) rfl rfl (Nat.le_of_ble_eq_true rfl) (by decide) (dk kL_dotOf 3 rfl) htab [] [⟨0, 6, 11, 15⟩] ⟨0, 6, 7, 32⟩ rfl (fun z hz => by cases hz) (by decide) (by decide) wd_2_173 (List.mem_of_getElem? (i := 0) rfl) (fun q => ?_)
  refine g_astore_n C (i := 3) (lv' := [(3, .ref q), (0, .ref (za Z a0)), (1, .int a1), (2, .int a2)]) (dk kL_dotOf 5 rfl) rfl (by decide) rfl ?_
  refine g_ldc C (v := (-2000001)) (C.w wd_2_194) (dk kL_dotOf 6 rfl) ?_
  exact g_iret C E rfl rfl (by decide) (by decide) (dk kL_dotOf 7 rfl)

set_option maxRecDepth 100000 in
set_option maxHeartbeats 4000000 in
theorem ctx2_L_dotOf {l : Launch} {Z : ZZ} {μ : Mm} {a0 : Nat} {a1 : Int32} {a2 : Int32} (k0 : (zk Z a0).1 = 5) (hl : l.stackTraces = false) (h : fx_X7_dot (zk Z) μ a0 a1 a2 = some 2) : CtW l Z yL_dotOf cL_dotOf 4 (some .int) [(0, 6, 7, 32), (0, 6, 11, 15)] 8 1 6 [.ref (za Z a0), .int a1, .int a2] μ (some (.int (-2000002))) Z μ := by
  refine ctw_of rfl rfl (Nat.le_of_ble_eq_true rfl) (fun X C E htab => ?_)
  show G Z X 4 0 0 0 [(0, .ref (za Z a0)), (1, .int a1), (2, .int a2)] [] μ
  refine g_aload_n C (i := 0) 0 rfl rfl (dk kL_dotOf 0 rfl) ?_
  refine g_iload_n C (i := 1) 1 rfl rfl (dk kL_dotOf 1 rfl) ?_
  refine g_iload_n C (i := 2) 2 rfl rfl (dk kL_dotOf 2 rfl) ?_
  refine gx_catchV (E := "java/lang/IllegalArgumentException") C E.2 (rest := []) 2 (by have q := ctx_X7_dot k0 hl h (by decide); exact q) wd_3_198 mm_X7_dot ⟨rfl, by decide, by decide, by decide⟩ rfl (by decide) k0 (by decide) rfl rfl (Nat.le_of_ble_eq_true rfl) (by decide) (dk kL_dotOf 3 rfl) htab [⟨0, 6, 7, 32⟩] [] ⟨0, 6, 11, 15⟩ rfl (fun z hz => by rcases List.mem_cons.mp hz with rfl | hz; exact ⟨by decide, "java/lang/IndexOutOfBoundsException", wd_2_173, List.mem_of_getElem? (i := 0) rfl⟩; cases hz) (by decide) (by decide) wd_1_215 (List.mem_of_getElem? (i := 1) rfl) (fun q => ?_)
  refine g_astore_n C (i := 3) (lv' := [(3, .ref q), (0, .ref (za Z a0)), (1, .int a1), (2, .int a2)]) (dk kL_dotOf 8 rfl) rfl (by decide) rfl ?_
  refine g_ldc C (v := (-2000002)) (C.w wd_2_133) (dk kL_dotOf 9 rfl) ?_
  exact g_iret C E rfl rfl (by decide) (by decide) (dk kL_dotOf 10 rfl)

def qL_ends : List (Nat × Instr × Nat) := [(0, .aload_n 0, 1), (1, .iload_n 1, 1), (2, .invokevirtual 48, 3), (5, .ireturn, 1), (6, .astore_n 2, 1), (7, .ldc 34, 2), (9, .ireturn, 1), (10, .astore_n 2, 1), (11, .ldc 27, 2), (13, .ireturn, 1)]
theorem kL_ends : ∀ q ∈ qL_ends, decode cL_ends q.1 = .ok q.2 := by decide +kernel
def f_L_ends (K : Nat → Nat × Nat) (μ : Mm) (a0 : Nat) (a1 : Int32) : Option (Int32 × Mm) :=
  bd (f_X7_endRent K μ a0 a1) fun q1 => lt1 q1.1 fun x3 => lt1 q1.2 fun μ2 => some (x3, μ2)
set_option maxRecDepth 100000 in
set_option maxHeartbeats 4000000 in
theorem t_L_ends {l : Launch} {Z : ZZ} {X : XX} (μ : Mm) (a0 : Nat) (a1 : Int32) (r : Int32) (μ' : Mm) (k0 : (zk Z a0).1 = 5) (h : f_L_ends (zk Z) μ a0 a1 = some (r, μ')) (C : Cx l Z false X cL_ends RL 3 (some .int)) (E : Ex Z X 5 0 0 (some (.int r)) Z μ') : G Z X 3 0 0 0 [(0, .ref (za Z a0)), (1, .int a1)] [] μ := by
  unfold f_L_ends at h
  refine g_aload_n C (i := 0) 0 rfl rfl (dk kL_ends 0 rfl) ?_
  refine g_iload_n C (i := 1) 1 rfl rfl (dk kL_ends 1 rfl) ?_
  obtain ⟨q1, eq1, h⟩ := bd_inv h
  obtain ⟨x3, ex3, h⟩ := lt_inv h
  obtain ⟨μ2, eμ2, h⟩ := lt_inv h
  rw [show q1 = (x3, μ2) from by rw [ex3, eμ2]] at eq1
  refine g_callV C E.2 (rest := []) 1 (ct_X7_endRent k0 eq1) wd_3_19 mm_X7_endRent ⟨rfl, by decide, by decide, by decide⟩ rfl (by decide) k0 (by decide) rfl rfl (Nat.le_of_ble_eq_true rfl) (by decide) (dk kL_ends 2 rfl) ?_
  obtain ⟨h8, h9⟩ := Prod.mk.inj (Option.some.inj h)
  subst h8
  subst h9
  exact g_iret C E rfl rfl (Nat.le_refl 0) (Nat.le_refl 0) (dk kL_ends 3 rfl)
theorem ct_L_ends {l : Launch} {Z : ZZ} {μ : Mm} {a0 : Nat} {a1 : Int32} {r : Int32} {μ' : Mm} (k0 : (zk Z a0).1 = 5) (h : f_L_ends (zk Z) μ a0 a1 = some (r, μ')) : CtW l Z yL_ends cL_ends 3 (some .int) [(0, 5, 6, 32), (0, 5, 10, 25)] 5 0 0 [.ref (za Z a0), .int a1] μ (some (.int r)) Z μ' := ctw_of rfl rfl (Nat.le_of_ble_eq_true rfl) (fun X C E _ => t_L_ends μ a0 a1 r μ' k0 h C E)

set_option maxRecDepth 100000 in
set_option maxHeartbeats 4000000 in
theorem ctx1_L_ends {l : Launch} {Z : ZZ} {μ : Mm} {a0 : Nat} {a1 : Int32} {μ9 : Mm} (k0 : (zk Z a0).1 = 5) (hl : l.stackTraces = false) (h : fx_X7_endRent (zk Z) μ a0 a1 = some (1, μ9)) : CtW l Z yL_ends cL_ends 3 (some .int) [(0, 5, 6, 32), (0, 5, 10, 25)] 8 1 6 [.ref (za Z a0), .int a1] μ (some (.int (-2000001))) Z μ9 := by
  refine ctw_of rfl rfl (Nat.le_of_ble_eq_true rfl) (fun X C E htab => ?_)
  show G Z X 3 0 0 0 [(0, .ref (za Z a0)), (1, .int a1)] [] μ
  refine g_aload_n C (i := 0) 0 rfl rfl (dk kL_ends 0 rfl) ?_
  refine g_iload_n C (i := 1) 1 rfl rfl (dk kL_ends 1 rfl) ?_
  refine gx_catchV (E := "java/lang/IndexOutOfBoundsException") C E.2 (rest := []) 1 (by have q := ctx_X7_endRent k0 hl h (by decide); exact q) wd_3_19 mm_X7_endRent ⟨rfl, by decide, by decide, by decide⟩ rfl (by decide) k0 (by decide) rfl rfl (Nat.le_of_ble_eq_true rfl) (by decide) (dk kL_ends 2 rfl) htab [] [⟨0, 5, 10, 25⟩] ⟨0, 5, 6, 32⟩ rfl (fun z hz => by cases hz) (by decide) (by decide) wd_2_173 (List.mem_of_getElem? (i := 0) rfl) (fun q => ?_)
  refine g_astore_n C (i := 2) (lv' := [(2, .ref q), (0, .ref (za Z a0)), (1, .int a1)]) (dk kL_ends 4 rfl) rfl (by decide) rfl ?_
  refine g_ldc C (v := (-2000001)) (C.w wd_2_194) (dk kL_ends 5 rfl) ?_
  exact g_iret C E rfl rfl (by decide) (by decide) (dk kL_ends 6 rfl)

set_option maxRecDepth 100000 in
set_option maxHeartbeats 4000000 in
theorem ctx3_L_ends {l : Launch} {Z : ZZ} {μ : Mm} {a0 : Nat} {a1 : Int32} {μ9 : Mm} (k0 : (zk Z a0).1 = 5) (hl : l.stackTraces = false) (h : fx_X7_endRent (zk Z) μ a0 a1 = some (3, μ9)) : CtW l Z yL_ends cL_ends 3 (some .int) [(0, 5, 6, 32), (0, 5, 10, 25)] 8 1 6 [.ref (za Z a0), .int a1] μ (some (.int (-2000003))) Z μ9 := by
  refine ctw_of rfl rfl (Nat.le_of_ble_eq_true rfl) (fun X C E htab => ?_)
  show G Z X 3 0 0 0 [(0, .ref (za Z a0)), (1, .int a1)] [] μ
  refine g_aload_n C (i := 0) 0 rfl rfl (dk kL_ends 0 rfl) ?_
  refine g_iload_n C (i := 1) 1 rfl rfl (dk kL_ends 1 rfl) ?_
  refine gx_catchV (E := "java/lang/IllegalStateException") C E.2 (rest := []) 1 (by have q := ctx_X7_endRent k0 hl h (by decide); exact q) wd_3_19 mm_X7_endRent ⟨rfl, by decide, by decide, by decide⟩ rfl (by decide) k0 (by decide) rfl rfl (Nat.le_of_ble_eq_true rfl) (by decide) (dk kL_ends 2 rfl) htab [⟨0, 5, 6, 32⟩] [] ⟨0, 5, 10, 25⟩ rfl (fun z hz => by rcases List.mem_cons.mp hz with rfl | hz; exact ⟨by decide, "java/lang/IndexOutOfBoundsException", wd_2_173, List.mem_of_getElem? (i := 1) rfl⟩; cases hz) (by decide) (by decide) wd_2_156 (List.mem_of_getElem? (i := 2) rfl) (fun q => ?_)
  refine g_astore_n C (i := 2) (lv' := [(2, .ref q), (0, .ref (za Z a0)), (1, .int a1)]) (dk kL_ends 7 rfl) rfl (by decide) rfl ?_
  refine g_ldc C (v := (-2000003)) (C.w wd_2_169) (dk kL_ends 8 rfl) ?_
  exact g_iret C E rfl rfl (by decide) (by decide) (dk kL_ends 9 rfl)

def qL_labelOf : List (Nat × Instr × Nat) := [(0, .aload_n 0, 1), (1, .iload_n 1, 1), (2, .iload_n 2, 1), (3, .invokevirtual 153, 3), (6, .ireturn, 1), (7, .astore_n 3, 1), (8, .ldc 34, 2), (10, .ireturn, 1), (11, .astore_n 3, 1), (12, .ldc 17, 2), (14, .ireturn, 1)]
theorem kL_labelOf : ∀ q ∈ qL_labelOf, decode cL_labelOf q.1 = .ok q.2 := by decide +kernel
def f_L_labelOf (K : Nat → Nat × Nat) (μ : Mm) (a0 : Nat) (a1 : Int32) (a2 : Int32) : Option (Int32) :=
  bd (f_X7_label K μ a0 a1 a2) fun x2 => some x2
set_option maxRecDepth 100000 in
set_option maxHeartbeats 4000000 in
theorem t_L_labelOf {l : Launch} {Z : ZZ} {X : XX} (μ : Mm) (a0 : Nat) (a1 : Int32) (a2 : Int32) (r : Int32) (k0 : (zk Z a0).1 = 5) (h : f_L_labelOf (zk Z) μ a0 a1 a2 = some r) (C : Cx l Z false X cL_labelOf RL 4 (some .int)) (E : Ex Z X 4 0 0 (some (.int r)) Z μ) : G Z X 4 0 0 0 [(0, .ref (za Z a0)), (1, .int a1), (2, .int a2)] [] μ := by
  unfold f_L_labelOf at h
  refine g_aload_n C (i := 0) 0 rfl rfl (dk kL_labelOf 0 rfl) ?_
  refine g_iload_n C (i := 1) 1 rfl rfl (dk kL_labelOf 1 rfl) ?_
  refine g_iload_n C (i := 2) 2 rfl rfl (dk kL_labelOf 2 rfl) ?_
  obtain ⟨x2, eq1, h⟩ := bd_inv h
  refine g_callV C E.2 (rest := []) 2 (ct_X7_label k0 eq1) wd_4_15 mm_X7_label ⟨rfl, by decide, by decide, by decide⟩ rfl (by decide) k0 (by decide) rfl rfl (Nat.le_of_ble_eq_true rfl) (by decide) (dk kL_labelOf 3 rfl) ?_
  have h9 := Option.some.inj h
  subst h9
  exact g_iret C E rfl rfl (Nat.le_refl 0) (Nat.le_refl 0) (dk kL_labelOf 4 rfl)
theorem ct_L_labelOf {l : Launch} {Z : ZZ} {μ : Mm} {a0 : Nat} {a1 : Int32} {a2 : Int32} {r : Int32} (k0 : (zk Z a0).1 = 5) (h : f_L_labelOf (zk Z) μ a0 a1 a2 = some r) : CtW l Z yL_labelOf cL_labelOf 4 (some .int) [(0, 6, 7, 32), (0, 6, 11, 15)] 4 0 0 [.ref (za Z a0), .int a1, .int a2] μ (some (.int r)) Z μ := ctw_of rfl rfl (Nat.le_of_ble_eq_true rfl) (fun X C E _ => t_L_labelOf μ a0 a1 a2 r k0 h C E)

set_option maxRecDepth 100000 in
set_option maxHeartbeats 4000000 in
theorem ctx1_L_labelOf {l : Launch} {Z : ZZ} {μ : Mm} {a0 : Nat} {a1 : Int32} {a2 : Int32} (k0 : (zk Z a0).1 = 5) (hl : l.stackTraces = false) (h : fx_X7_label (zk Z) μ a0 a1 a2 = some 1) : CtW l Z yL_labelOf cL_labelOf 4 (some .int) [(0, 6, 7, 32), (0, 6, 11, 15)] 8 1 6 [.ref (za Z a0), .int a1, .int a2] μ (some (.int (-2000001))) Z μ := by
  refine ctw_of rfl rfl (Nat.le_of_ble_eq_true rfl) (fun X C E htab => ?_)
  show G Z X 4 0 0 0 [(0, .ref (za Z a0)), (1, .int a1), (2, .int a2)] [] μ
  refine g_aload_n C (i := 0) 0 rfl rfl (dk kL_labelOf 0 rfl) ?_
  refine g_iload_n C (i := 1) 1 rfl rfl (dk kL_labelOf 1 rfl) ?_
  refine g_iload_n C (i := 2) 2 rfl rfl (dk kL_labelOf 2 rfl) ?_
  refine gx_catchV (E := "java/lang/IndexOutOfBoundsException") C E.2 (rest := []) 2 (by have q := ctx_X7_label k0 hl h (by decide); exact q) wd_4_15 mm_X7_label ⟨rfl, by decide, by decide, by decide⟩ rfl (by decide) k0 (by decide) rfl rfl (Nat.le_of_ble_eq_true rfl) (by decide) (dk kL_labelOf 3 rfl) htab [] [⟨0, 6, 11, 15⟩] ⟨0, 6, 7, 32⟩ rfl (fun z hz => by cases hz) (by decide) (by decide) wd_2_173 (List.mem_of_getElem? (i := 0) rfl) (fun q => ?_)
  refine g_astore_n C (i := 3) (lv' := [(3, .ref q), (0, .ref (za Z a0)), (1, .int a1), (2, .int a2)]) (dk kL_labelOf 5 rfl) rfl (by decide) rfl ?_
  refine g_ldc C (v := (-2000001)) (C.w wd_2_194) (dk kL_labelOf 6 rfl) ?_
  exact g_iret C E rfl rfl (by decide) (by decide) (dk kL_labelOf 7 rfl)

set_option maxRecDepth 100000 in
set_option maxHeartbeats 4000000 in
theorem ctx2_L_labelOf {l : Launch} {Z : ZZ} {μ : Mm} {a0 : Nat} {a1 : Int32} {a2 : Int32} (k0 : (zk Z a0).1 = 5) (hl : l.stackTraces = false) (h : fx_X7_label (zk Z) μ a0 a1 a2 = some 2) : CtW l Z yL_labelOf cL_labelOf 4 (some .int) [(0, 6, 7, 32), (0, 6, 11, 15)] 8 1 6 [.ref (za Z a0), .int a1, .int a2] μ (some (.int (-2000002))) Z μ := by
  refine ctw_of rfl rfl (Nat.le_of_ble_eq_true rfl) (fun X C E htab => ?_)
  show G Z X 4 0 0 0 [(0, .ref (za Z a0)), (1, .int a1), (2, .int a2)] [] μ
  refine g_aload_n C (i := 0) 0 rfl rfl (dk kL_labelOf 0 rfl) ?_
  refine g_iload_n C (i := 1) 1 rfl rfl (dk kL_labelOf 1 rfl) ?_
  refine g_iload_n C (i := 2) 2 rfl rfl (dk kL_labelOf 2 rfl) ?_
  refine gx_catchV (E := "java/lang/IllegalArgumentException") C E.2 (rest := []) 2 (by have q := ctx_X7_label k0 hl h (by decide); exact q) wd_4_15 mm_X7_label ⟨rfl, by decide, by decide, by decide⟩ rfl (by decide) k0 (by decide) rfl rfl (Nat.le_of_ble_eq_true rfl) (by decide) (dk kL_labelOf 3 rfl) htab [⟨0, 6, 7, 32⟩] [] ⟨0, 6, 11, 15⟩ rfl (fun z hz => by rcases List.mem_cons.mp hz with rfl | hz; exact ⟨by decide, "java/lang/IndexOutOfBoundsException", wd_2_173, List.mem_of_getElem? (i := 0) rfl⟩; cases hz) (by decide) (by decide) wd_1_215 (List.mem_of_getElem? (i := 1) rfl) (fun q => ?_)
  refine g_astore_n C (i := 3) (lv' := [(3, .ref q), (0, .ref (za Z a0)), (1, .int a1), (2, .int a2)]) (dk kL_labelOf 8 rfl) rfl (by decide) rfl ?_
  refine g_ldc C (v := (-2000002)) (C.w wd_2_133) (dk kL_labelOf 9 rfl) ?_
  exact g_iret C E rfl rfl (by decide) (by decide) (dk kL_labelOf 10 rfl)

def qL_labels : List (Nat × Instr × Nat) := [(0, .aload_n 0, 1), (1, .iload_n 1, 1), (2, .iload_n 2, 1), (3, .invokevirtual 22, 3), (6, .ireturn, 1), (7, .astore_n 3, 1), (8, .ldc 17, 2), (10, .ireturn, 1), (11, .astore_n 3, 1), (12, .ldc 27, 2), (14, .ireturn, 1)]
theorem kL_labels : ∀ q ∈ qL_labels, decode cL_labels q.1 = .ok q.2 := by decide +kernel
def f_L_labels (K : Nat → Nat × Nat) (μ : Mm) (a0 : Nat) (a1 : Int32) (a2 : Int32) : Option (Int32 × Mm) :=
  bd (f_X7_addLabel K μ a0 a1 a2) fun q1 => lt1 q1.1 fun x3 => lt1 q1.2 fun μ2 => some (x3, μ2)
set_option maxRecDepth 100000 in
set_option maxHeartbeats 4000000 in
theorem t_L_labels {l : Launch} {Z : ZZ} {X : XX} (μ : Mm) (a0 : Nat) (a1 : Int32) (a2 : Int32) (r : Int32) (μ' : Mm) (k0 : (zk Z a0).1 = 5) (h : f_L_labels (zk Z) μ a0 a1 a2 = some (r, μ')) (C : Cx l Z false X cL_labels RL 4 (some .int)) (E : Ex Z X 5 0 0 (some (.int r)) Z μ') : G Z X 4 0 0 0 [(0, .ref (za Z a0)), (1, .int a1), (2, .int a2)] [] μ := by
  unfold f_L_labels at h
  refine g_aload_n C (i := 0) 0 rfl rfl (dk kL_labels 0 rfl) ?_
  refine g_iload_n C (i := 1) 1 rfl rfl (dk kL_labels 1 rfl) ?_
  refine g_iload_n C (i := 2) 2 rfl rfl (dk kL_labels 2 rfl) ?_
  obtain ⟨q1, eq1, h⟩ := bd_inv h
  obtain ⟨x3, ex3, h⟩ := lt_inv h
  obtain ⟨μ2, eμ2, h⟩ := lt_inv h
  rw [show q1 = (x3, μ2) from by rw [ex3, eμ2]] at eq1
  refine g_callV C E.2 (rest := []) 2 (ct_X7_addLabel k0 eq1) wd_2_157 mm_X7_addLabel ⟨rfl, by decide, by decide, by decide⟩ rfl (by decide) k0 (by decide) rfl rfl (Nat.le_of_ble_eq_true rfl) (by decide) (dk kL_labels 3 rfl) ?_
  obtain ⟨h8, h9⟩ := Prod.mk.inj (Option.some.inj h)
  subst h8
  subst h9
  exact g_iret C E rfl rfl (Nat.le_refl 0) (Nat.le_refl 0) (dk kL_labels 4 rfl)
theorem ct_L_labels {l : Launch} {Z : ZZ} {μ : Mm} {a0 : Nat} {a1 : Int32} {a2 : Int32} {r : Int32} {μ' : Mm} (k0 : (zk Z a0).1 = 5) (h : f_L_labels (zk Z) μ a0 a1 a2 = some (r, μ')) : CtW l Z yL_labels cL_labels 4 (some .int) [(0, 6, 7, 15), (0, 6, 11, 25)] 5 0 0 [.ref (za Z a0), .int a1, .int a2] μ (some (.int r)) Z μ' := ctw_of rfl rfl (Nat.le_of_ble_eq_true rfl) (fun X C E _ => t_L_labels μ a0 a1 a2 r μ' k0 h C E)

set_option maxRecDepth 100000 in
set_option maxHeartbeats 4000000 in
theorem ctx2_L_labels {l : Launch} {Z : ZZ} {μ : Mm} {a0 : Nat} {a1 : Int32} {a2 : Int32} {μ9 : Mm} (k0 : (zk Z a0).1 = 5) (hl : l.stackTraces = false) (h : fx_X7_addLabel (zk Z) μ a0 a1 a2 = some (2, μ9)) : CtW l Z yL_labels cL_labels 4 (some .int) [(0, 6, 7, 15), (0, 6, 11, 25)] 8 1 6 [.ref (za Z a0), .int a1, .int a2] μ (some (.int (-2000002))) Z μ9 := by
  refine ctw_of rfl rfl (Nat.le_of_ble_eq_true rfl) (fun X C E htab => ?_)
  show G Z X 4 0 0 0 [(0, .ref (za Z a0)), (1, .int a1), (2, .int a2)] [] μ
  refine g_aload_n C (i := 0) 0 rfl rfl (dk kL_labels 0 rfl) ?_
  refine g_iload_n C (i := 1) 1 rfl rfl (dk kL_labels 1 rfl) ?_
  refine g_iload_n C (i := 2) 2 rfl rfl (dk kL_labels 2 rfl) ?_
  refine gx_catchV (E := "java/lang/IllegalArgumentException") C E.2 (rest := []) 2 (by have q := ctx_X7_addLabel k0 hl h (by decide); exact q) wd_2_157 mm_X7_addLabel ⟨rfl, by decide, by decide, by decide⟩ rfl (by decide) k0 (by decide) rfl rfl (Nat.le_of_ble_eq_true rfl) (by decide) (dk kL_labels 3 rfl) htab [] [⟨0, 6, 11, 25⟩] ⟨0, 6, 7, 15⟩ rfl (fun z hz => by cases hz) (by decide) (by decide) wd_1_215 (List.mem_of_getElem? (i := 1) rfl) (fun q => ?_)
  refine g_astore_n C (i := 3) (lv' := [(3, .ref q), (0, .ref (za Z a0)), (1, .int a1), (2, .int a2)]) (dk kL_labels 5 rfl) rfl (by decide) rfl ?_
  refine g_ldc C (v := (-2000002)) (C.w wd_2_133) (dk kL_labels 6 rfl) ?_
  exact g_iret C E rfl rfl (by decide) (by decide) (dk kL_labels 7 rfl)

set_option maxRecDepth 100000 in
set_option maxHeartbeats 4000000 in
theorem ctx3_L_labels {l : Launch} {Z : ZZ} {μ : Mm} {a0 : Nat} {a1 : Int32} {a2 : Int32} {μ9 : Mm} (k0 : (zk Z a0).1 = 5) (hl : l.stackTraces = false) (h : fx_X7_addLabel (zk Z) μ a0 a1 a2 = some (3, μ9)) : CtW l Z yL_labels cL_labels 4 (some .int) [(0, 6, 7, 15), (0, 6, 11, 25)] 8 1 6 [.ref (za Z a0), .int a1, .int a2] μ (some (.int (-2000003))) Z μ9 := by
  refine ctw_of rfl rfl (Nat.le_of_ble_eq_true rfl) (fun X C E htab => ?_)
  show G Z X 4 0 0 0 [(0, .ref (za Z a0)), (1, .int a1), (2, .int a2)] [] μ
  refine g_aload_n C (i := 0) 0 rfl rfl (dk kL_labels 0 rfl) ?_
  refine g_iload_n C (i := 1) 1 rfl rfl (dk kL_labels 1 rfl) ?_
  refine g_iload_n C (i := 2) 2 rfl rfl (dk kL_labels 2 rfl) ?_
  refine gx_catchV (E := "java/lang/IllegalStateException") C E.2 (rest := []) 2 (by have q := ctx_X7_addLabel k0 hl h (by decide); exact q) wd_2_157 mm_X7_addLabel ⟨rfl, by decide, by decide, by decide⟩ rfl (by decide) k0 (by decide) rfl rfl (Nat.le_of_ble_eq_true rfl) (by decide) (dk kL_labels 3 rfl) htab [⟨0, 6, 7, 15⟩] [] ⟨0, 6, 11, 25⟩ rfl (fun z hz => by rcases List.mem_cons.mp hz with rfl | hz; exact ⟨by decide, "java/lang/IllegalArgumentException", wd_1_215, List.mem_of_getElem? (i := 2) rfl⟩; cases hz) (by decide) (by decide) wd_2_156 (List.mem_of_getElem? (i := 2) rfl) (fun q => ?_)
  refine g_astore_n C (i := 3) (lv' := [(3, .ref q), (0, .ref (za Z a0)), (1, .int a1), (2, .int a2)]) (dk kL_labels 8 rfl) rfl (by decide) rfl ?_
  refine g_ldc C (v := (-2000003)) (C.w wd_2_169) (dk kL_labels 9 rfl) ?_
  exact g_iret C E rfl rfl (by decide) (by decide) (dk kL_labels 10 rfl)

def qL_prints : List (Nat × Instr × Nat) := [(0, .aload_n 0, 1), (1, .iload_n 1, 1), (2, .iload_n 2, 1), (3, .iload_n 3, 1), (4, .invokevirtual 51, 3), (7, .ireturn, 1), (8, .astore 4, 2), (10, .ldc 34, 2), (12, .ireturn, 1), (13, .astore 4, 2), (15, .ldc 17, 2), (17, .ireturn, 1), (18, .astore 4, 2), (20, .ldc 27, 2), (22, .ireturn, 1)]
theorem kL_prints : ∀ q ∈ qL_prints, decode cL_prints q.1 = .ok q.2 := by decide +kernel
def f_L_prints (K : Nat → Nat × Nat) (μ : Mm) (a0 : Nat) (a1 : Int32) (a2 : Int32) (a3 : Int32) : Option (Int32 × Mm) :=
  bd (f_X7_print K μ a0 a1 a2 a3) fun q1 => lt1 q1.1 fun x3 => lt1 q1.2 fun μ2 => some (x3, μ2)
set_option maxRecDepth 100000 in
set_option maxHeartbeats 4000000 in
theorem t_L_prints {l : Launch} {Z : ZZ} {X : XX} (μ : Mm) (a0 : Nat) (a1 : Int32) (a2 : Int32) (a3 : Int32) (r : Int32) (μ' : Mm) (k0 : (zk Z a0).1 = 5) (h : f_L_prints (zk Z) μ a0 a1 a2 a3 = some (r, μ')) (C : Cx l Z false X cL_prints RL 5 (some .int)) (E : Ex Z X 5 0 0 (some (.int r)) Z μ') : G Z X 5 0 0 0 [(0, .ref (za Z a0)), (1, .int a1), (2, .int a2), (3, .int a3)] [] μ := by
  unfold f_L_prints at h
  refine g_aload_n C (i := 0) 0 rfl rfl (dk kL_prints 0 rfl) ?_
  refine g_iload_n C (i := 1) 1 rfl rfl (dk kL_prints 1 rfl) ?_
  refine g_iload_n C (i := 2) 2 rfl rfl (dk kL_prints 2 rfl) ?_
  refine g_iload_n C (i := 3) 3 rfl rfl (dk kL_prints 3 rfl) ?_
  obtain ⟨q1, eq1, h⟩ := bd_inv h
  obtain ⟨x3, ex3, h⟩ := lt_inv h
  obtain ⟨μ2, eμ2, h⟩ := lt_inv h
  rw [show q1 = (x3, μ2) from by rw [ex3, eμ2]] at eq1
  refine g_callV C E.2 (rest := []) 3 (ct_X7_print k0 eq1) wd_3_78 mm_X7_print ⟨rfl, by decide, by decide, by decide⟩ rfl (by decide) k0 (by decide) rfl rfl (Nat.le_of_ble_eq_true rfl) (by decide) (dk kL_prints 4 rfl) ?_
  obtain ⟨h8, h9⟩ := Prod.mk.inj (Option.some.inj h)
  subst h8
  subst h9
  exact g_iret C E rfl rfl (Nat.le_refl 0) (Nat.le_refl 0) (dk kL_prints 5 rfl)
theorem ct_L_prints {l : Launch} {Z : ZZ} {μ : Mm} {a0 : Nat} {a1 : Int32} {a2 : Int32} {a3 : Int32} {r : Int32} {μ' : Mm} (k0 : (zk Z a0).1 = 5) (h : f_L_prints (zk Z) μ a0 a1 a2 a3 = some (r, μ')) : CtW l Z yL_prints cL_prints 5 (some .int) [(0, 7, 8, 32), (0, 7, 13, 15), (0, 7, 18, 25)] 5 0 0 [.ref (za Z a0), .int a1, .int a2, .int a3] μ (some (.int r)) Z μ' := ctw_of rfl rfl (Nat.le_of_ble_eq_true rfl) (fun X C E _ => t_L_prints μ a0 a1 a2 a3 r μ' k0 h C E)

set_option maxRecDepth 100000 in
set_option maxHeartbeats 4000000 in
theorem ctx1_L_prints {l : Launch} {Z : ZZ} {μ : Mm} {a0 : Nat} {a1 : Int32} {a2 : Int32} {a3 : Int32} {μ9 : Mm} (k0 : (zk Z a0).1 = 5) (hl : l.stackTraces = false) (h : fx_X7_print (zk Z) μ a0 a1 a2 a3 = some (1, μ9)) : CtW l Z yL_prints cL_prints 5 (some .int) [(0, 7, 8, 32), (0, 7, 13, 15), (0, 7, 18, 25)] 8 1 6 [.ref (za Z a0), .int a1, .int a2, .int a3] μ (some (.int (-2000001))) Z μ9 := by
  refine ctw_of rfl rfl (Nat.le_of_ble_eq_true rfl) (fun X C E htab => ?_)
  show G Z X 5 0 0 0 [(0, .ref (za Z a0)), (1, .int a1), (2, .int a2), (3, .int a3)] [] μ
  refine g_aload_n C (i := 0) 0 rfl rfl (dk kL_prints 0 rfl) ?_
  refine g_iload_n C (i := 1) 1 rfl rfl (dk kL_prints 1 rfl) ?_
  refine g_iload_n C (i := 2) 2 rfl rfl (dk kL_prints 2 rfl) ?_
  refine g_iload_n C (i := 3) 3 rfl rfl (dk kL_prints 3 rfl) ?_
  refine gx_catchV (E := "java/lang/IndexOutOfBoundsException") C E.2 (rest := []) 3 (by have q := ctx_X7_print k0 hl h (by decide); exact q) wd_3_78 mm_X7_print ⟨rfl, by decide, by decide, by decide⟩ rfl (by decide) k0 (by decide) rfl rfl (Nat.le_of_ble_eq_true rfl) (by decide) (dk kL_prints 4 rfl) htab [] [⟨0, 7, 13, 15⟩, ⟨0, 7, 18, 25⟩] ⟨0, 7, 8, 32⟩ rfl (fun z hz => by cases hz) (by decide) (by decide) wd_2_173 (List.mem_of_getElem? (i := 0) rfl) (fun q => ?_)
  refine g_astore C (i := 4) (lv' := [(4, .ref q), (0, .ref (za Z a0)), (1, .int a1), (2, .int a2), (3, .int a3)]) (dk kL_prints 6 rfl) (by decide) rfl ?_
  refine g_ldc C (v := (-2000001)) (C.w wd_2_194) (dk kL_prints 7 rfl) ?_
  exact g_iret C E rfl rfl (by decide) (by decide) (dk kL_prints 8 rfl)

set_option maxRecDepth 100000 in
set_option maxHeartbeats 4000000 in
theorem ctx2_L_prints {l : Launch} {Z : ZZ} {μ : Mm} {a0 : Nat} {a1 : Int32} {a2 : Int32} {a3 : Int32} {μ9 : Mm} (k0 : (zk Z a0).1 = 5) (hl : l.stackTraces = false) (h : fx_X7_print (zk Z) μ a0 a1 a2 a3 = some (2, μ9)) : CtW l Z yL_prints cL_prints 5 (some .int) [(0, 7, 8, 32), (0, 7, 13, 15), (0, 7, 18, 25)] 8 1 6 [.ref (za Z a0), .int a1, .int a2, .int a3] μ (some (.int (-2000002))) Z μ9 := by
  refine ctw_of rfl rfl (Nat.le_of_ble_eq_true rfl) (fun X C E htab => ?_)
  show G Z X 5 0 0 0 [(0, .ref (za Z a0)), (1, .int a1), (2, .int a2), (3, .int a3)] [] μ
  refine g_aload_n C (i := 0) 0 rfl rfl (dk kL_prints 0 rfl) ?_
  refine g_iload_n C (i := 1) 1 rfl rfl (dk kL_prints 1 rfl) ?_
  refine g_iload_n C (i := 2) 2 rfl rfl (dk kL_prints 2 rfl) ?_
  refine g_iload_n C (i := 3) 3 rfl rfl (dk kL_prints 3 rfl) ?_
  refine gx_catchV (E := "java/lang/IllegalArgumentException") C E.2 (rest := []) 3 (by have q := ctx_X7_print k0 hl h (by decide); exact q) wd_3_78 mm_X7_print ⟨rfl, by decide, by decide, by decide⟩ rfl (by decide) k0 (by decide) rfl rfl (Nat.le_of_ble_eq_true rfl) (by decide) (dk kL_prints 4 rfl) htab [⟨0, 7, 8, 32⟩] [⟨0, 7, 18, 25⟩] ⟨0, 7, 13, 15⟩ rfl (fun z hz => by rcases List.mem_cons.mp hz with rfl | hz; exact ⟨by decide, "java/lang/IndexOutOfBoundsException", wd_2_173, List.mem_of_getElem? (i := 0) rfl⟩; cases hz) (by decide) (by decide) wd_1_215 (List.mem_of_getElem? (i := 1) rfl) (fun q => ?_)
  refine g_astore C (i := 4) (lv' := [(4, .ref q), (0, .ref (za Z a0)), (1, .int a1), (2, .int a2), (3, .int a3)]) (dk kL_prints 9 rfl) (by decide) rfl ?_
  refine g_ldc C (v := (-2000002)) (C.w wd_2_133) (dk kL_prints 10 rfl) ?_
  exact g_iret C E rfl rfl (by decide) (by decide) (dk kL_prints 11 rfl)

set_option maxRecDepth 100000 in
set_option maxHeartbeats 4000000 in
theorem ctx3_L_prints {l : Launch} {Z : ZZ} {μ : Mm} {a0 : Nat} {a1 : Int32} {a2 : Int32} {a3 : Int32} {μ9 : Mm} (k0 : (zk Z a0).1 = 5) (hl : l.stackTraces = false) (h : fx_X7_print (zk Z) μ a0 a1 a2 a3 = some (3, μ9)) : CtW l Z yL_prints cL_prints 5 (some .int) [(0, 7, 8, 32), (0, 7, 13, 15), (0, 7, 18, 25)] 8 1 6 [.ref (za Z a0), .int a1, .int a2, .int a3] μ (some (.int (-2000003))) Z μ9 := by
  refine ctw_of rfl rfl (Nat.le_of_ble_eq_true rfl) (fun X C E htab => ?_)
  show G Z X 5 0 0 0 [(0, .ref (za Z a0)), (1, .int a1), (2, .int a2), (3, .int a3)] [] μ
  refine g_aload_n C (i := 0) 0 rfl rfl (dk kL_prints 0 rfl) ?_
  refine g_iload_n C (i := 1) 1 rfl rfl (dk kL_prints 1 rfl) ?_
  refine g_iload_n C (i := 2) 2 rfl rfl (dk kL_prints 2 rfl) ?_
  refine g_iload_n C (i := 3) 3 rfl rfl (dk kL_prints 3 rfl) ?_
  refine gx_catchV (E := "java/lang/IllegalStateException") C E.2 (rest := []) 3 (by have q := ctx_X7_print k0 hl h (by decide); exact q) wd_3_78 mm_X7_print ⟨rfl, by decide, by decide, by decide⟩ rfl (by decide) k0 (by decide) rfl rfl (Nat.le_of_ble_eq_true rfl) (by decide) (dk kL_prints 4 rfl) htab [⟨0, 7, 8, 32⟩, ⟨0, 7, 13, 15⟩] [] ⟨0, 7, 18, 25⟩ rfl (fun z hz => by rcases List.mem_cons.mp hz with rfl | hz; exact ⟨by decide, "java/lang/IndexOutOfBoundsException", wd_2_173, List.mem_of_getElem? (i := 1) rfl⟩; rcases List.mem_cons.mp hz with rfl | hz; exact ⟨by decide, "java/lang/IllegalArgumentException", wd_1_215, List.mem_of_getElem? (i := 2) rfl⟩; cases hz) (by decide) (by decide) wd_2_156 (List.mem_of_getElem? (i := 2) rfl) (fun q => ?_)
  refine g_astore C (i := 4) (lv' := [(4, .ref q), (0, .ref (za Z a0)), (1, .int a1), (2, .int a2), (3, .int a3)]) (dk kL_prints 12 rfl) (by decide) rfl ?_
  refine g_ldc C (v := (-2000003)) (C.w wd_2_169) (dk kL_prints 13 rfl) ?_
  exact g_iret C E rfl rfl (by decide) (by decide) (dk kL_prints 14 rfl)

def qL_renews : List (Nat × Instr × Nat) := [(0, .aload_n 0, 1), (1, .iload_n 1, 1), (2, .invokevirtual 35, 3), (5, .ireturn, 1), (6, .astore_n 2, 1), (7, .ldc 34, 2), (9, .ireturn, 1)]
theorem kL_renews : ∀ q ∈ qL_renews, decode cL_renews q.1 = .ok q.2 := by decide +kernel
def f_L_renews (K : Nat → Nat × Nat) (μ : Mm) (a0 : Nat) (a1 : Int32) : Option (Int32 × Mm) :=
  bd (f_X7_replace K μ a0 a1) fun q1 => lt1 q1.1 fun x3 => lt1 q1.2 fun μ2 => some (x3, μ2)
set_option maxRecDepth 100000 in
set_option maxHeartbeats 4000000 in
theorem t_L_renews {l : Launch} {Z : ZZ} {X : XX} (μ : Mm) (a0 : Nat) (a1 : Int32) (r : Int32) (μ' : Mm) (k0 : (zk Z a0).1 = 5) (h : f_L_renews (zk Z) μ a0 a1 = some (r, μ')) (C : Cx l Z false X cL_renews RL 3 (some .int)) (E : Ex Z X 5 0 0 (some (.int r)) Z μ') : G Z X 3 0 0 0 [(0, .ref (za Z a0)), (1, .int a1)] [] μ := by
  unfold f_L_renews at h
  refine g_aload_n C (i := 0) 0 rfl rfl (dk kL_renews 0 rfl) ?_
  refine g_iload_n C (i := 1) 1 rfl rfl (dk kL_renews 1 rfl) ?_
  obtain ⟨q1, eq1, h⟩ := bd_inv h
  obtain ⟨x3, ex3, h⟩ := lt_inv h
  obtain ⟨μ2, eμ2, h⟩ := lt_inv h
  rw [show q1 = (x3, μ2) from by rw [ex3, eμ2]] at eq1
  refine g_callV C E.2 (rest := []) 1 (ct_X7_replace k0 eq1) wd_2_198 mm_X7_replace ⟨rfl, by decide, by decide, by decide⟩ rfl (by decide) k0 (by decide) rfl rfl (Nat.le_of_ble_eq_true rfl) (by decide) (dk kL_renews 2 rfl) ?_
  obtain ⟨h8, h9⟩ := Prod.mk.inj (Option.some.inj h)
  subst h8
  subst h9
  exact g_iret C E rfl rfl (Nat.le_refl 0) (Nat.le_refl 0) (dk kL_renews 3 rfl)
theorem ct_L_renews {l : Launch} {Z : ZZ} {μ : Mm} {a0 : Nat} {a1 : Int32} {r : Int32} {μ' : Mm} (k0 : (zk Z a0).1 = 5) (h : f_L_renews (zk Z) μ a0 a1 = some (r, μ')) : CtW l Z yL_renews cL_renews 3 (some .int) [(0, 5, 6, 32)] 5 0 0 [.ref (za Z a0), .int a1] μ (some (.int r)) Z μ' := ctw_of rfl rfl (Nat.le_of_ble_eq_true rfl) (fun X C E _ => t_L_renews μ a0 a1 r μ' k0 h C E)

set_option maxRecDepth 100000 in
set_option maxHeartbeats 4000000 in
theorem ctx1_L_renews {l : Launch} {Z : ZZ} {μ : Mm} {a0 : Nat} {a1 : Int32} {μ9 : Mm} (k0 : (zk Z a0).1 = 5) (hl : l.stackTraces = false) (h : fx_X7_replace (zk Z) μ a0 a1 = some (1, μ9)) : CtW l Z yL_renews cL_renews 3 (some .int) [(0, 5, 6, 32)] 8 1 6 [.ref (za Z a0), .int a1] μ (some (.int (-2000001))) Z μ9 := by
  refine ctw_of rfl rfl (Nat.le_of_ble_eq_true rfl) (fun X C E htab => ?_)
  show G Z X 3 0 0 0 [(0, .ref (za Z a0)), (1, .int a1)] [] μ
  refine g_aload_n C (i := 0) 0 rfl rfl (dk kL_renews 0 rfl) ?_
  refine g_iload_n C (i := 1) 1 rfl rfl (dk kL_renews 1 rfl) ?_
  refine gx_catchV (E := "java/lang/IndexOutOfBoundsException") C E.2 (rest := []) 1 (by have q := ctx_X7_replace k0 hl h (by decide); exact q) wd_2_198 mm_X7_replace ⟨rfl, by decide, by decide, by decide⟩ rfl (by decide) k0 (by decide) rfl rfl (Nat.le_of_ble_eq_true rfl) (by decide) (dk kL_renews 2 rfl) htab [] [] ⟨0, 5, 6, 32⟩ rfl (fun z hz => by cases hz) (by decide) (by decide) wd_2_173 (List.mem_of_getElem? (i := 0) rfl) (fun q => ?_)
  refine g_astore_n C (i := 2) (lv' := [(2, .ref q), (0, .ref (za Z a0)), (1, .int a1)]) (dk kL_renews 4 rfl) rfl (by decide) rfl ?_
  refine g_ldc C (v := (-2000001)) (C.w wd_2_194) (dk kL_renews 5 rfl) ?_
  exact g_iret C E rfl rfl (by decide) (by decide) (dk kL_renews 6 rfl)

def qL_rents : List (Nat × Instr × Nat) := [(0, .aload_n 0, 1), (1, .iload_n 1, 1), (2, .iload_n 2, 1), (3, .iload_n 3, 1), (4, .invokevirtual 45, 3), (7, .ireturn, 1), (8, .astore 4, 2), (10, .ldc 34, 2), (12, .ireturn, 1), (13, .astore 4, 2), (15, .ldc 17, 2), (17, .ireturn, 1), (18, .astore 4, 2), (20, .ldc 27, 2), (22, .ireturn, 1)]
theorem kL_rents : ∀ q ∈ qL_rents, decode cL_rents q.1 = .ok q.2 := by decide +kernel
def f_L_rents (K : Nat → Nat × Nat) (μ : Mm) (a0 : Nat) (a1 : Int32) (a2 : Int32) (a3 : Int32) : Option (Int32 × Mm) :=
  bd (f_X7_rent K μ a0 a1 a2 a3) fun q1 => lt1 q1.1 fun x3 => lt1 q1.2 fun μ2 => some (x3, μ2)
set_option maxRecDepth 100000 in
set_option maxHeartbeats 4000000 in
theorem t_L_rents {l : Launch} {Z : ZZ} {X : XX} (μ : Mm) (a0 : Nat) (a1 : Int32) (a2 : Int32) (a3 : Int32) (r : Int32) (μ' : Mm) (k0 : (zk Z a0).1 = 5) (h : f_L_rents (zk Z) μ a0 a1 a2 a3 = some (r, μ')) (C : Cx l Z false X cL_rents RL 5 (some .int)) (E : Ex Z X 5 0 0 (some (.int r)) Z μ') : G Z X 5 0 0 0 [(0, .ref (za Z a0)), (1, .int a1), (2, .int a2), (3, .int a3)] [] μ := by
  unfold f_L_rents at h
  refine g_aload_n C (i := 0) 0 rfl rfl (dk kL_rents 0 rfl) ?_
  refine g_iload_n C (i := 1) 1 rfl rfl (dk kL_rents 1 rfl) ?_
  refine g_iload_n C (i := 2) 2 rfl rfl (dk kL_rents 2 rfl) ?_
  refine g_iload_n C (i := 3) 3 rfl rfl (dk kL_rents 3 rfl) ?_
  obtain ⟨q1, eq1, h⟩ := bd_inv h
  obtain ⟨x3, ex3, h⟩ := lt_inv h
  obtain ⟨μ2, eμ2, h⟩ := lt_inv h
  rw [show q1 = (x3, μ2) from by rw [ex3, eμ2]] at eq1
  refine g_callV C E.2 (rest := []) 3 (ct_X7_rent k0 eq1) wd_3_42 mm_X7_rent ⟨rfl, by decide, by decide, by decide⟩ rfl (by decide) k0 (by decide) rfl rfl (Nat.le_of_ble_eq_true rfl) (by decide) (dk kL_rents 4 rfl) ?_
  obtain ⟨h8, h9⟩ := Prod.mk.inj (Option.some.inj h)
  subst h8
  subst h9
  exact g_iret C E rfl rfl (Nat.le_refl 0) (Nat.le_refl 0) (dk kL_rents 5 rfl)
theorem ct_L_rents {l : Launch} {Z : ZZ} {μ : Mm} {a0 : Nat} {a1 : Int32} {a2 : Int32} {a3 : Int32} {r : Int32} {μ' : Mm} (k0 : (zk Z a0).1 = 5) (h : f_L_rents (zk Z) μ a0 a1 a2 a3 = some (r, μ')) : CtW l Z yL_rents cL_rents 5 (some .int) [(0, 7, 8, 32), (0, 7, 13, 15), (0, 7, 18, 25)] 5 0 0 [.ref (za Z a0), .int a1, .int a2, .int a3] μ (some (.int r)) Z μ' := ctw_of rfl rfl (Nat.le_of_ble_eq_true rfl) (fun X C E _ => t_L_rents μ a0 a1 a2 a3 r μ' k0 h C E)

set_option maxRecDepth 100000 in
set_option maxHeartbeats 4000000 in
theorem ctx1_L_rents {l : Launch} {Z : ZZ} {μ : Mm} {a0 : Nat} {a1 : Int32} {a2 : Int32} {a3 : Int32} {μ9 : Mm} (k0 : (zk Z a0).1 = 5) (hl : l.stackTraces = false) (h : fx_X7_rent (zk Z) μ a0 a1 a2 a3 = some (1, μ9)) : CtW l Z yL_rents cL_rents 5 (some .int) [(0, 7, 8, 32), (0, 7, 13, 15), (0, 7, 18, 25)] 8 1 6 [.ref (za Z a0), .int a1, .int a2, .int a3] μ (some (.int (-2000001))) Z μ9 := by
  refine ctw_of rfl rfl (Nat.le_of_ble_eq_true rfl) (fun X C E htab => ?_)
  show G Z X 5 0 0 0 [(0, .ref (za Z a0)), (1, .int a1), (2, .int a2), (3, .int a3)] [] μ
  refine g_aload_n C (i := 0) 0 rfl rfl (dk kL_rents 0 rfl) ?_
  refine g_iload_n C (i := 1) 1 rfl rfl (dk kL_rents 1 rfl) ?_
  refine g_iload_n C (i := 2) 2 rfl rfl (dk kL_rents 2 rfl) ?_
  refine g_iload_n C (i := 3) 3 rfl rfl (dk kL_rents 3 rfl) ?_
  refine gx_catchV (E := "java/lang/IndexOutOfBoundsException") C E.2 (rest := []) 3 (by have q := ctx_X7_rent k0 hl h (by decide); exact q) wd_3_42 mm_X7_rent ⟨rfl, by decide, by decide, by decide⟩ rfl (by decide) k0 (by decide) rfl rfl (Nat.le_of_ble_eq_true rfl) (by decide) (dk kL_rents 4 rfl) htab [] [⟨0, 7, 13, 15⟩, ⟨0, 7, 18, 25⟩] ⟨0, 7, 8, 32⟩ rfl (fun z hz => by cases hz) (by decide) (by decide) wd_2_173 (List.mem_of_getElem? (i := 0) rfl) (fun q => ?_)
  refine g_astore C (i := 4) (lv' := [(4, .ref q), (0, .ref (za Z a0)), (1, .int a1), (2, .int a2), (3, .int a3)]) (dk kL_rents 6 rfl) (by decide) rfl ?_
  refine g_ldc C (v := (-2000001)) (C.w wd_2_194) (dk kL_rents 7 rfl) ?_
  exact g_iret C E rfl rfl (by decide) (by decide) (dk kL_rents 8 rfl)

set_option maxRecDepth 100000 in
set_option maxHeartbeats 4000000 in
theorem ctx2_L_rents {l : Launch} {Z : ZZ} {μ : Mm} {a0 : Nat} {a1 : Int32} {a2 : Int32} {a3 : Int32} {μ9 : Mm} (k0 : (zk Z a0).1 = 5) (hl : l.stackTraces = false) (h : fx_X7_rent (zk Z) μ a0 a1 a2 a3 = some (2, μ9)) : CtW l Z yL_rents cL_rents 5 (some .int) [(0, 7, 8, 32), (0, 7, 13, 15), (0, 7, 18, 25)] 8 1 6 [.ref (za Z a0), .int a1, .int a2, .int a3] μ (some (.int (-2000002))) Z μ9 := by
  refine ctw_of rfl rfl (Nat.le_of_ble_eq_true rfl) (fun X C E htab => ?_)
  show G Z X 5 0 0 0 [(0, .ref (za Z a0)), (1, .int a1), (2, .int a2), (3, .int a3)] [] μ
  refine g_aload_n C (i := 0) 0 rfl rfl (dk kL_rents 0 rfl) ?_
  refine g_iload_n C (i := 1) 1 rfl rfl (dk kL_rents 1 rfl) ?_
  refine g_iload_n C (i := 2) 2 rfl rfl (dk kL_rents 2 rfl) ?_
  refine g_iload_n C (i := 3) 3 rfl rfl (dk kL_rents 3 rfl) ?_
  refine gx_catchV (E := "java/lang/IllegalArgumentException") C E.2 (rest := []) 3 (by have q := ctx_X7_rent k0 hl h (by decide); exact q) wd_3_42 mm_X7_rent ⟨rfl, by decide, by decide, by decide⟩ rfl (by decide) k0 (by decide) rfl rfl (Nat.le_of_ble_eq_true rfl) (by decide) (dk kL_rents 4 rfl) htab [⟨0, 7, 8, 32⟩] [⟨0, 7, 18, 25⟩] ⟨0, 7, 13, 15⟩ rfl (fun z hz => by rcases List.mem_cons.mp hz with rfl | hz; exact ⟨by decide, "java/lang/IndexOutOfBoundsException", wd_2_173, List.mem_of_getElem? (i := 0) rfl⟩; cases hz) (by decide) (by decide) wd_1_215 (List.mem_of_getElem? (i := 1) rfl) (fun q => ?_)
  refine g_astore C (i := 4) (lv' := [(4, .ref q), (0, .ref (za Z a0)), (1, .int a1), (2, .int a2), (3, .int a3)]) (dk kL_rents 9 rfl) (by decide) rfl ?_
  refine g_ldc C (v := (-2000002)) (C.w wd_2_133) (dk kL_rents 10 rfl) ?_
  exact g_iret C E rfl rfl (by decide) (by decide) (dk kL_rents 11 rfl)

set_option maxRecDepth 100000 in
set_option maxHeartbeats 4000000 in
theorem ctx3_L_rents {l : Launch} {Z : ZZ} {μ : Mm} {a0 : Nat} {a1 : Int32} {a2 : Int32} {a3 : Int32} {μ9 : Mm} (k0 : (zk Z a0).1 = 5) (hl : l.stackTraces = false) (h : fx_X7_rent (zk Z) μ a0 a1 a2 a3 = some (3, μ9)) : CtW l Z yL_rents cL_rents 5 (some .int) [(0, 7, 8, 32), (0, 7, 13, 15), (0, 7, 18, 25)] 8 1 6 [.ref (za Z a0), .int a1, .int a2, .int a3] μ (some (.int (-2000003))) Z μ9 := by
  refine ctw_of rfl rfl (Nat.le_of_ble_eq_true rfl) (fun X C E htab => ?_)
  show G Z X 5 0 0 0 [(0, .ref (za Z a0)), (1, .int a1), (2, .int a2), (3, .int a3)] [] μ
  refine g_aload_n C (i := 0) 0 rfl rfl (dk kL_rents 0 rfl) ?_
  refine g_iload_n C (i := 1) 1 rfl rfl (dk kL_rents 1 rfl) ?_
  refine g_iload_n C (i := 2) 2 rfl rfl (dk kL_rents 2 rfl) ?_
  refine g_iload_n C (i := 3) 3 rfl rfl (dk kL_rents 3 rfl) ?_
  refine gx_catchV (E := "java/lang/IllegalStateException") C E.2 (rest := []) 3 (by have q := ctx_X7_rent k0 hl h (by decide); exact q) wd_3_42 mm_X7_rent ⟨rfl, by decide, by decide, by decide⟩ rfl (by decide) k0 (by decide) rfl rfl (Nat.le_of_ble_eq_true rfl) (by decide) (dk kL_rents 4 rfl) htab [⟨0, 7, 8, 32⟩, ⟨0, 7, 13, 15⟩] [] ⟨0, 7, 18, 25⟩ rfl (fun z hz => by rcases List.mem_cons.mp hz with rfl | hz; exact ⟨by decide, "java/lang/IndexOutOfBoundsException", wd_2_173, List.mem_of_getElem? (i := 1) rfl⟩; rcases List.mem_cons.mp hz with rfl | hz; exact ⟨by decide, "java/lang/IllegalArgumentException", wd_1_215, List.mem_of_getElem? (i := 2) rfl⟩; cases hz) (by decide) (by decide) wd_2_156 (List.mem_of_getElem? (i := 2) rfl) (fun q => ?_)
  refine g_astore C (i := 4) (lv' := [(4, .ref q), (0, .ref (za Z a0)), (1, .int a1), (2, .int a2), (3, .int a3)]) (dk kL_rents 12 rfl) (by decide) rfl ?_
  refine g_ldc C (v := (-2000003)) (C.w wd_2_169) (dk kL_rents 13 rfl) ?_
  exact g_iret C E rfl rfl (by decide) (by decide) (dk kL_rents 14 rfl)

def qL_rowOf : List (Nat × Instr × Nat) := [(0, .aload_n 0, 1), (1, .iload_n 1, 1), (2, .iload_n 2, 1), (3, .invokevirtual 156, 3), (6, .ireturn, 1), (7, .astore_n 3, 1), (8, .ldc 34, 2), (10, .ireturn, 1), (11, .astore_n 3, 1), (12, .ldc 17, 2), (14, .ireturn, 1)]
theorem kL_rowOf : ∀ q ∈ qL_rowOf, decode cL_rowOf q.1 = .ok q.2 := by decide +kernel
def f_L_rowOf (K : Nat → Nat × Nat) (μ : Mm) (a0 : Nat) (a1 : Int32) (a2 : Int32) : Option (Int32) :=
  bd (f_X7_row K μ a0 a1 a2) fun x2 => some x2
set_option maxRecDepth 100000 in
set_option maxHeartbeats 4000000 in
theorem t_L_rowOf {l : Launch} {Z : ZZ} {X : XX} (μ : Mm) (a0 : Nat) (a1 : Int32) (a2 : Int32) (r : Int32) (k0 : (zk Z a0).1 = 5) (h : f_L_rowOf (zk Z) μ a0 a1 a2 = some r) (C : Cx l Z false X cL_rowOf RL 4 (some .int)) (E : Ex Z X 3 0 0 (some (.int r)) Z μ) : G Z X 4 0 0 0 [(0, .ref (za Z a0)), (1, .int a1), (2, .int a2)] [] μ := by
  unfold f_L_rowOf at h
  refine g_aload_n C (i := 0) 0 rfl rfl (dk kL_rowOf 0 rfl) ?_
  refine g_iload_n C (i := 1) 1 rfl rfl (dk kL_rowOf 1 rfl) ?_
  refine g_iload_n C (i := 2) 2 rfl rfl (dk kL_rowOf 2 rfl) ?_
  obtain ⟨x2, eq1, h⟩ := bd_inv h
  refine g_callV C E.2 (rest := []) 2 (ct_X7_row k0 eq1) wd_4_4 mm_X7_row ⟨rfl, by decide, by decide, by decide⟩ rfl (by decide) k0 (by decide) rfl rfl (Nat.le_of_ble_eq_true rfl) (by decide) (dk kL_rowOf 3 rfl) ?_
  have h9 := Option.some.inj h
  subst h9
  exact g_iret C E rfl rfl (Nat.le_refl 0) (Nat.le_refl 0) (dk kL_rowOf 4 rfl)
theorem ct_L_rowOf {l : Launch} {Z : ZZ} {μ : Mm} {a0 : Nat} {a1 : Int32} {a2 : Int32} {r : Int32} (k0 : (zk Z a0).1 = 5) (h : f_L_rowOf (zk Z) μ a0 a1 a2 = some r) : CtW l Z yL_rowOf cL_rowOf 4 (some .int) [(0, 6, 7, 32), (0, 6, 11, 15)] 3 0 0 [.ref (za Z a0), .int a1, .int a2] μ (some (.int r)) Z μ := ctw_of rfl rfl (Nat.le_of_ble_eq_true rfl) (fun X C E _ => t_L_rowOf μ a0 a1 a2 r k0 h C E)

set_option maxRecDepth 100000 in
set_option maxHeartbeats 4000000 in
theorem ctx1_L_rowOf {l : Launch} {Z : ZZ} {μ : Mm} {a0 : Nat} {a1 : Int32} {a2 : Int32} (k0 : (zk Z a0).1 = 5) (hl : l.stackTraces = false) (h : fx_X7_row (zk Z) μ a0 a1 a2 = some 1) : CtW l Z yL_rowOf cL_rowOf 4 (some .int) [(0, 6, 7, 32), (0, 6, 11, 15)] 8 1 6 [.ref (za Z a0), .int a1, .int a2] μ (some (.int (-2000001))) Z μ := by
  refine ctw_of rfl rfl (Nat.le_of_ble_eq_true rfl) (fun X C E htab => ?_)
  show G Z X 4 0 0 0 [(0, .ref (za Z a0)), (1, .int a1), (2, .int a2)] [] μ
  refine g_aload_n C (i := 0) 0 rfl rfl (dk kL_rowOf 0 rfl) ?_
  refine g_iload_n C (i := 1) 1 rfl rfl (dk kL_rowOf 1 rfl) ?_
  refine g_iload_n C (i := 2) 2 rfl rfl (dk kL_rowOf 2 rfl) ?_
  refine gx_catchV (E := "java/lang/IndexOutOfBoundsException") C E.2 (rest := []) 2 (by have q := ctx_X7_row k0 hl h (by decide); exact q) wd_4_4 mm_X7_row ⟨rfl, by decide, by decide, by decide⟩ rfl (by decide) k0 (by decide) rfl rfl (Nat.le_of_ble_eq_true rfl) (by decide) (dk kL_rowOf 3 rfl) htab [] [⟨0, 6, 11, 15⟩] ⟨0, 6, 7, 32⟩ rfl (fun z hz => by cases hz) (by decide) (by decide) wd_2_173 (List.mem_of_getElem? (i := 0) rfl) (fun q => ?_)
  refine g_astore_n C (i := 3) (lv' := [(3, .ref q), (0, .ref (za Z a0)), (1, .int a1), (2, .int a2)]) (dk kL_rowOf 5 rfl) rfl (by decide) rfl ?_
  refine g_ldc C (v := (-2000001)) (C.w wd_2_194) (dk kL_rowOf 6 rfl) ?_
  exact g_iret C E rfl rfl (by decide) (by decide) (dk kL_rowOf 7 rfl)

set_option maxRecDepth 100000 in
set_option maxHeartbeats 4000000 in
theorem ctx2_L_rowOf {l : Launch} {Z : ZZ} {μ : Mm} {a0 : Nat} {a1 : Int32} {a2 : Int32} (k0 : (zk Z a0).1 = 5) (hl : l.stackTraces = false) (h : fx_X7_row (zk Z) μ a0 a1 a2 = some 2) : CtW l Z yL_rowOf cL_rowOf 4 (some .int) [(0, 6, 7, 32), (0, 6, 11, 15)] 8 1 6 [.ref (za Z a0), .int a1, .int a2] μ (some (.int (-2000002))) Z μ := by
  refine ctw_of rfl rfl (Nat.le_of_ble_eq_true rfl) (fun X C E htab => ?_)
  show G Z X 4 0 0 0 [(0, .ref (za Z a0)), (1, .int a1), (2, .int a2)] [] μ
  refine g_aload_n C (i := 0) 0 rfl rfl (dk kL_rowOf 0 rfl) ?_
  refine g_iload_n C (i := 1) 1 rfl rfl (dk kL_rowOf 1 rfl) ?_
  refine g_iload_n C (i := 2) 2 rfl rfl (dk kL_rowOf 2 rfl) ?_
  refine gx_catchV (E := "java/lang/IllegalArgumentException") C E.2 (rest := []) 2 (by have q := ctx_X7_row k0 hl h (by decide); exact q) wd_4_4 mm_X7_row ⟨rfl, by decide, by decide, by decide⟩ rfl (by decide) k0 (by decide) rfl rfl (Nat.le_of_ble_eq_true rfl) (by decide) (dk kL_rowOf 3 rfl) htab [⟨0, 6, 7, 32⟩] [] ⟨0, 6, 11, 15⟩ rfl (fun z hz => by rcases List.mem_cons.mp hz with rfl | hz; exact ⟨by decide, "java/lang/IndexOutOfBoundsException", wd_2_173, List.mem_of_getElem? (i := 0) rfl⟩; cases hz) (by decide) (by decide) wd_1_215 (List.mem_of_getElem? (i := 1) rfl) (fun q => ?_)
  refine g_astore_n C (i := 3) (lv' := [(3, .ref q), (0, .ref (za Z a0)), (1, .int a1), (2, .int a2)]) (dk kL_rowOf 8 rfl) rfl (by decide) rfl ?_
  refine g_ldc C (v := (-2000002)) (C.w wd_2_133) (dk kL_rowOf 9 rfl) ?_
  exact g_iret C E rfl rfl (by decide) (by decide) (dk kL_rowOf 10 rfl)

def qL_rows : List (Nat × Instr × Nat) := [(0, .aload_n 0, 1), (1, .iload_n 1, 1), (2, .iload_n 2, 1), (3, .iload_n 3, 1), (4, .invokevirtual 28, 3), (7, .ireturn, 1), (8, .astore 4, 2), (10, .ldc 34, 2), (12, .ireturn, 1), (13, .astore 4, 2), (15, .ldc 17, 2), (17, .ireturn, 1)]
theorem kL_rows : ∀ q ∈ qL_rows, decode cL_rows q.1 = .ok q.2 := by decide +kernel
def f_L_rows (K : Nat → Nat × Nat) (μ : Mm) (a0 : Nat) (a1 : Int32) (a2 : Int32) (a3 : Int32) : Option (Int32 × Mm) :=
  bd (f_X7_setRow K μ a0 a1 a2 a3) fun q1 => lt1 q1.1 fun x3 => lt1 q1.2 fun μ2 => some (x3, μ2)
set_option maxRecDepth 100000 in
set_option maxHeartbeats 4000000 in
theorem t_L_rows {l : Launch} {Z : ZZ} {X : XX} (μ : Mm) (a0 : Nat) (a1 : Int32) (a2 : Int32) (a3 : Int32) (r : Int32) (μ' : Mm) (k0 : (zk Z a0).1 = 5) (h : f_L_rows (zk Z) μ a0 a1 a2 a3 = some (r, μ')) (C : Cx l Z false X cL_rows RL 5 (some .int)) (E : Ex Z X 5 0 0 (some (.int r)) Z μ') : G Z X 5 0 0 0 [(0, .ref (za Z a0)), (1, .int a1), (2, .int a2), (3, .int a3)] [] μ := by
  unfold f_L_rows at h
  refine g_aload_n C (i := 0) 0 rfl rfl (dk kL_rows 0 rfl) ?_
  refine g_iload_n C (i := 1) 1 rfl rfl (dk kL_rows 1 rfl) ?_
  refine g_iload_n C (i := 2) 2 rfl rfl (dk kL_rows 2 rfl) ?_
  refine g_iload_n C (i := 3) 3 rfl rfl (dk kL_rows 3 rfl) ?_
  obtain ⟨q1, eq1, h⟩ := bd_inv h
  obtain ⟨x3, ex3, h⟩ := lt_inv h
  obtain ⟨μ2, eμ2, h⟩ := lt_inv h
  rw [show q1 = (x3, μ2) from by rw [ex3, eμ2]] at eq1
  refine g_callV C E.2 (rest := []) 3 (ct_X7_setRow k0 eq1) wd_2_174 mm_X7_setRow ⟨rfl, by decide, by decide, by decide⟩ rfl (by decide) k0 (by decide) rfl rfl (Nat.le_of_ble_eq_true rfl) (by decide) (dk kL_rows 4 rfl) ?_
  obtain ⟨h8, h9⟩ := Prod.mk.inj (Option.some.inj h)
  subst h8
  subst h9
  exact g_iret C E rfl rfl (Nat.le_refl 0) (Nat.le_refl 0) (dk kL_rows 5 rfl)
theorem ct_L_rows {l : Launch} {Z : ZZ} {μ : Mm} {a0 : Nat} {a1 : Int32} {a2 : Int32} {a3 : Int32} {r : Int32} {μ' : Mm} (k0 : (zk Z a0).1 = 5) (h : f_L_rows (zk Z) μ a0 a1 a2 a3 = some (r, μ')) : CtW l Z yL_rows cL_rows 5 (some .int) [(0, 7, 8, 32), (0, 7, 13, 15)] 5 0 0 [.ref (za Z a0), .int a1, .int a2, .int a3] μ (some (.int r)) Z μ' := ctw_of rfl rfl (Nat.le_of_ble_eq_true rfl) (fun X C E _ => t_L_rows μ a0 a1 a2 a3 r μ' k0 h C E)

set_option maxRecDepth 100000 in
set_option maxHeartbeats 4000000 in
theorem ctx1_L_rows {l : Launch} {Z : ZZ} {μ : Mm} {a0 : Nat} {a1 : Int32} {a2 : Int32} {a3 : Int32} {μ9 : Mm} (k0 : (zk Z a0).1 = 5) (hl : l.stackTraces = false) (h : fx_X7_setRow (zk Z) μ a0 a1 a2 a3 = some (1, μ9)) : CtW l Z yL_rows cL_rows 5 (some .int) [(0, 7, 8, 32), (0, 7, 13, 15)] 8 1 6 [.ref (za Z a0), .int a1, .int a2, .int a3] μ (some (.int (-2000001))) Z μ9 := by
  refine ctw_of rfl rfl (Nat.le_of_ble_eq_true rfl) (fun X C E htab => ?_)
  show G Z X 5 0 0 0 [(0, .ref (za Z a0)), (1, .int a1), (2, .int a2), (3, .int a3)] [] μ
  refine g_aload_n C (i := 0) 0 rfl rfl (dk kL_rows 0 rfl) ?_
  refine g_iload_n C (i := 1) 1 rfl rfl (dk kL_rows 1 rfl) ?_
  refine g_iload_n C (i := 2) 2 rfl rfl (dk kL_rows 2 rfl) ?_
  refine g_iload_n C (i := 3) 3 rfl rfl (dk kL_rows 3 rfl) ?_
  refine gx_catchV (E := "java/lang/IndexOutOfBoundsException") C E.2 (rest := []) 3 (by have q := ctx_X7_setRow k0 hl h (by decide); exact q) wd_2_174 mm_X7_setRow ⟨rfl, by decide, by decide, by decide⟩ rfl (by decide) k0 (by decide) rfl rfl (Nat.le_of_ble_eq_true rfl) (by decide) (dk kL_rows 4 rfl) htab [] [⟨0, 7, 13, 15⟩] ⟨0, 7, 8, 32⟩ rfl (fun z hz => by cases hz) (by decide) (by decide) wd_2_173 (List.mem_of_getElem? (i := 0) rfl) (fun q => ?_)
  refine g_astore C (i := 4) (lv' := [(4, .ref q), (0, .ref (za Z a0)), (1, .int a1), (2, .int a2), (3, .int a3)]) (dk kL_rows 6 rfl) (by decide) rfl ?_
  refine g_ldc C (v := (-2000001)) (C.w wd_2_194) (dk kL_rows 7 rfl) ?_
  exact g_iret C E rfl rfl (by decide) (by decide) (dk kL_rows 8 rfl)

set_option maxRecDepth 100000 in
set_option maxHeartbeats 4000000 in
theorem ctx2_L_rows {l : Launch} {Z : ZZ} {μ : Mm} {a0 : Nat} {a1 : Int32} {a2 : Int32} {a3 : Int32} {μ9 : Mm} (k0 : (zk Z a0).1 = 5) (hl : l.stackTraces = false) (h : fx_X7_setRow (zk Z) μ a0 a1 a2 a3 = some (2, μ9)) : CtW l Z yL_rows cL_rows 5 (some .int) [(0, 7, 8, 32), (0, 7, 13, 15)] 8 1 6 [.ref (za Z a0), .int a1, .int a2, .int a3] μ (some (.int (-2000002))) Z μ9 := by
  refine ctw_of rfl rfl (Nat.le_of_ble_eq_true rfl) (fun X C E htab => ?_)
  show G Z X 5 0 0 0 [(0, .ref (za Z a0)), (1, .int a1), (2, .int a2), (3, .int a3)] [] μ
  refine g_aload_n C (i := 0) 0 rfl rfl (dk kL_rows 0 rfl) ?_
  refine g_iload_n C (i := 1) 1 rfl rfl (dk kL_rows 1 rfl) ?_
  refine g_iload_n C (i := 2) 2 rfl rfl (dk kL_rows 2 rfl) ?_
  refine g_iload_n C (i := 3) 3 rfl rfl (dk kL_rows 3 rfl) ?_
  refine gx_catchV (E := "java/lang/IllegalArgumentException") C E.2 (rest := []) 3 (by have q := ctx_X7_setRow k0 hl h (by decide); exact q) wd_2_174 mm_X7_setRow ⟨rfl, by decide, by decide, by decide⟩ rfl (by decide) k0 (by decide) rfl rfl (Nat.le_of_ble_eq_true rfl) (by decide) (dk kL_rows 4 rfl) htab [⟨0, 7, 8, 32⟩] [] ⟨0, 7, 13, 15⟩ rfl (fun z hz => by rcases List.mem_cons.mp hz with rfl | hz; exact ⟨by decide, "java/lang/IndexOutOfBoundsException", wd_2_173, List.mem_of_getElem? (i := 0) rfl⟩; cases hz) (by decide) (by decide) wd_1_215 (List.mem_of_getElem? (i := 1) rfl) (fun q => ?_)
  refine g_astore C (i := 4) (lv' := [(4, .ref q), (0, .ref (za Z a0)), (1, .int a1), (2, .int a2), (3, .int a3)]) (dk kL_rows 9 rfl) (by decide) rfl ?_
  refine g_ldc C (v := (-2000002)) (C.w wd_2_133) (dk kL_rows 10 rfl) ?_
  exact g_iret C E rfl rfl (by decide) (by decide) (dk kL_rows 11 rfl)

def qL_sets : List (Nat × Instr × Nat) := [(0, .aload_n 0, 1), (1, .iload_n 1, 1), (2, .iload_n 2, 1), (3, .invokevirtual 18, 3), (6, .ireturn, 1), (7, .astore_n 3, 1), (8, .ldc 17, 2), (10, .ireturn, 1)]
theorem kL_sets : ∀ q ∈ qL_sets, decode cL_sets q.1 = .ok q.2 := by decide +kernel
def f_L_sets (K : Nat → Nat × Nat) (μ : Mm) (a0 : Nat) (a1 : Int32) (a2 : Int32) : Option (Int32 × Mm) :=
  bd (f_X7_set K μ a0 a1 a2) fun q1 => lt1 q1.1 fun x3 => lt1 q1.2 fun μ2 => some (x3, μ2)
set_option maxRecDepth 100000 in
set_option maxHeartbeats 4000000 in
theorem t_L_sets {l : Launch} {Z : ZZ} {X : XX} (μ : Mm) (a0 : Nat) (a1 : Int32) (a2 : Int32) (r : Int32) (μ' : Mm) (k0 : (zk Z a0).1 = 5) (h : f_L_sets (zk Z) μ a0 a1 a2 = some (r, μ')) (C : Cx l Z false X cL_sets RL 4 (some .int)) (E : Ex Z X 5 0 0 (some (.int r)) Z μ') : G Z X 4 0 0 0 [(0, .ref (za Z a0)), (1, .int a1), (2, .int a2)] [] μ := by
  unfold f_L_sets at h
  refine g_aload_n C (i := 0) 0 rfl rfl (dk kL_sets 0 rfl) ?_
  refine g_iload_n C (i := 1) 1 rfl rfl (dk kL_sets 1 rfl) ?_
  refine g_iload_n C (i := 2) 2 rfl rfl (dk kL_sets 2 rfl) ?_
  obtain ⟨q1, eq1, h⟩ := bd_inv h
  obtain ⟨x3, ex3, h⟩ := lt_inv h
  obtain ⟨μ2, eμ2, h⟩ := lt_inv h
  rw [show q1 = (x3, μ2) from by rw [ex3, eμ2]] at eq1
  refine g_callV C E.2 (rest := []) 2 (ct_X7_set k0 eq1) wd_2_137 mm_X7_set ⟨rfl, by decide, by decide, by decide⟩ rfl (by decide) k0 (by decide) rfl rfl (Nat.le_of_ble_eq_true rfl) (by decide) (dk kL_sets 3 rfl) ?_
  obtain ⟨h8, h9⟩ := Prod.mk.inj (Option.some.inj h)
  subst h8
  subst h9
  exact g_iret C E rfl rfl (Nat.le_refl 0) (Nat.le_refl 0) (dk kL_sets 4 rfl)
theorem ct_L_sets {l : Launch} {Z : ZZ} {μ : Mm} {a0 : Nat} {a1 : Int32} {a2 : Int32} {r : Int32} {μ' : Mm} (k0 : (zk Z a0).1 = 5) (h : f_L_sets (zk Z) μ a0 a1 a2 = some (r, μ')) : CtW l Z yL_sets cL_sets 4 (some .int) [(0, 6, 7, 15)] 5 0 0 [.ref (za Z a0), .int a1, .int a2] μ (some (.int r)) Z μ' := ctw_of rfl rfl (Nat.le_of_ble_eq_true rfl) (fun X C E _ => t_L_sets μ a0 a1 a2 r μ' k0 h C E)

set_option maxRecDepth 100000 in
set_option maxHeartbeats 4000000 in
theorem ctx2_L_sets {l : Launch} {Z : ZZ} {μ : Mm} {a0 : Nat} {a1 : Int32} {a2 : Int32} {μ9 : Mm} (k0 : (zk Z a0).1 = 5) (hl : l.stackTraces = false) (h : fx_X7_set (zk Z) μ a0 a1 a2 = some (2, μ9)) : CtW l Z yL_sets cL_sets 4 (some .int) [(0, 6, 7, 15)] 8 1 6 [.ref (za Z a0), .int a1, .int a2] μ (some (.int (-2000002))) Z μ9 := by
  refine ctw_of rfl rfl (Nat.le_of_ble_eq_true rfl) (fun X C E htab => ?_)
  show G Z X 4 0 0 0 [(0, .ref (za Z a0)), (1, .int a1), (2, .int a2)] [] μ
  refine g_aload_n C (i := 0) 0 rfl rfl (dk kL_sets 0 rfl) ?_
  refine g_iload_n C (i := 1) 1 rfl rfl (dk kL_sets 1 rfl) ?_
  refine g_iload_n C (i := 2) 2 rfl rfl (dk kL_sets 2 rfl) ?_
  refine gx_catchV (E := "java/lang/IllegalArgumentException") C E.2 (rest := []) 2 (by have q := ctx_X7_set k0 hl h (by decide); exact q) wd_2_137 mm_X7_set ⟨rfl, by decide, by decide, by decide⟩ rfl (by decide) k0 (by decide) rfl rfl (Nat.le_of_ble_eq_true rfl) (by decide) (dk kL_sets 3 rfl) htab [] [] ⟨0, 6, 7, 15⟩ rfl (fun z hz => by cases hz) (by decide) (by decide) wd_1_215 (List.mem_of_getElem? (i := 1) rfl) (fun q => ?_)
  refine g_astore_n C (i := 3) (lv' := [(3, .ref q), (0, .ref (za Z a0)), (1, .int a1), (2, .int a2)]) (dk kL_sets 5 rfl) rfl (by decide) rfl ?_
  refine g_ldc C (v := (-2000002)) (C.w wd_2_133) (dk kL_sets 6 rfl) ?_
  exact g_iret C E rfl rfl (by decide) (by decide) (dk kL_sets 7 rfl)

def qL_wholeOf : List (Nat × Instr × Nat) := [(0, .aload_n 0, 1), (1, .iload_n 1, 1), (2, .invokevirtual 162, 3), (5, .ireturn, 1), (6, .astore_n 2, 1), (7, .ldc 17, 2), (9, .ireturn, 1)]
theorem kL_wholeOf : ∀ q ∈ qL_wholeOf, decode cL_wholeOf q.1 = .ok q.2 := by decide +kernel
def f_L_wholeOf (K : Nat → Nat × Nat) (μ : Mm) (a0 : Nat) (a1 : Int32) : Option (Int32) :=
  bd (f_X7_whole K μ a0 a1) fun x2 => some x2
set_option maxRecDepth 100000 in
set_option maxHeartbeats 4000000 in
theorem t_L_wholeOf {l : Launch} {Z : ZZ} {X : XX} (μ : Mm) (a0 : Nat) (a1 : Int32) (r : Int32) (k0 : (zk Z a0).1 = 5) (h : f_L_wholeOf (zk Z) μ a0 a1 = some r) (C : Cx l Z false X cL_wholeOf RL 3 (some .int)) (E : Ex Z X 4 0 0 (some (.int r)) Z μ) : G Z X 3 0 0 0 [(0, .ref (za Z a0)), (1, .int a1)] [] μ := by
  unfold f_L_wholeOf at h
  refine g_aload_n C (i := 0) 0 rfl rfl (dk kL_wholeOf 0 rfl) ?_
  refine g_iload_n C (i := 1) 1 rfl rfl (dk kL_wholeOf 1 rfl) ?_
  obtain ⟨x2, eq1, h⟩ := bd_inv h
  refine g_callV C E.2 (rest := []) 1 (ct_X7_whole k0 eq1) wd_3_218 mm_X7_whole ⟨rfl, by decide, by decide, by decide⟩ rfl (by decide) k0 (by decide) rfl rfl (Nat.le_of_ble_eq_true rfl) (by decide) (dk kL_wholeOf 2 rfl) ?_
  have h9 := Option.some.inj h
  subst h9
  exact g_iret C E rfl rfl (Nat.le_refl 0) (Nat.le_refl 0) (dk kL_wholeOf 3 rfl)
theorem ct_L_wholeOf {l : Launch} {Z : ZZ} {μ : Mm} {a0 : Nat} {a1 : Int32} {r : Int32} (k0 : (zk Z a0).1 = 5) (h : f_L_wholeOf (zk Z) μ a0 a1 = some r) : CtW l Z yL_wholeOf cL_wholeOf 3 (some .int) [(0, 5, 6, 15)] 4 0 0 [.ref (za Z a0), .int a1] μ (some (.int r)) Z μ := ctw_of rfl rfl (Nat.le_of_ble_eq_true rfl) (fun X C E _ => t_L_wholeOf μ a0 a1 r k0 h C E)

set_option maxRecDepth 100000 in
set_option maxHeartbeats 4000000 in
theorem ctx2_L_wholeOf {l : Launch} {Z : ZZ} {μ : Mm} {a0 : Nat} {a1 : Int32} (k0 : (zk Z a0).1 = 5) (hl : l.stackTraces = false) (h : fx_X7_whole (zk Z) μ a0 a1 = some 2) : CtW l Z yL_wholeOf cL_wholeOf 3 (some .int) [(0, 5, 6, 15)] 8 1 6 [.ref (za Z a0), .int a1] μ (some (.int (-2000002))) Z μ := by
  refine ctw_of rfl rfl (Nat.le_of_ble_eq_true rfl) (fun X C E htab => ?_)
  show G Z X 3 0 0 0 [(0, .ref (za Z a0)), (1, .int a1)] [] μ
  refine g_aload_n C (i := 0) 0 rfl rfl (dk kL_wholeOf 0 rfl) ?_
  refine g_iload_n C (i := 1) 1 rfl rfl (dk kL_wholeOf 1 rfl) ?_
  refine gx_catchV (E := "java/lang/IllegalArgumentException") C E.2 (rest := []) 1 (by have q := ctx_X7_whole k0 hl h (by decide); exact q) wd_3_218 mm_X7_whole ⟨rfl, by decide, by decide, by decide⟩ rfl (by decide) k0 (by decide) rfl rfl (Nat.le_of_ble_eq_true rfl) (by decide) (dk kL_wholeOf 2 rfl) htab [] [] ⟨0, 5, 6, 15⟩ rfl (fun z hz => by cases hz) (by decide) (by decide) wd_1_215 (List.mem_of_getElem? (i := 1) rfl) (fun q => ?_)
  refine g_astore_n C (i := 2) (lv' := [(2, .ref q), (0, .ref (za Z a0)), (1, .int a1)]) (dk kL_wholeOf 4 rfl) rfl (by decide) rfl ?_
  refine g_ldc C (v := (-2000002)) (C.w wd_2_133) (dk kL_wholeOf 5 rfl) ?_
  exact g_iret C E rfl rfl (by decide) (by decide) (dk kL_wholeOf 6 rfl)
