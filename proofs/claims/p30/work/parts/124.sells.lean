def qL_sells_0 : List (Nat × Instr × Nat) := [(0, .aload_n 1, 1), (1, .bipush 8, 2), (3, .iaload, 1), (4, .ifCond .eq 10, 3), (7, .aload_n 1, 1), (8, .bipush 9, 2), (10, .iaload, 1), (11, .ifCond .ne 39, 3), (14, .aload_n 0, 1), (15, .aload_n 1, 1), (16, .bipush 9, 2), (18, .iaload, 1), (19, .iconst 0, 1), (20, .bipush 24, 2), (22, .invokestatic 102, 3), (25, .ldc 34, 2), (27, .if_icmp .ne 21, 3), (30, .aload_n 0, 1), (31, .iconst 0, 1), (32, .aload_n 1, 1), (33, .bipush 8, 2), (35, .iaload, 1), (36, .invokestatic 105, 3), (39, .ldc 34, 2), (41, .if_icmp .ne 7, 3), (44, .iconst 1, 1), (45, .goto 4, 3), (48, .iconst 0, 1), (49, .ireturn, 1), (50, .iload 7, 2), (52, .aload_n 1, 1), (53, .bipush 9, 2), (55, .iaload, 1), (56, .irem, 1), (57, .istore 9, 2), (59, .iload 7, 2), (61, .bipush 6, 2), (63, .idiv, 1), (64, .aload_n 1, 1), (65, .bipush 8, 2), (67, .iaload, 1), (68, .irem, 1), (69, .istore 10, 2), (71, .iload 8, 2), (73, .ifCond .eq 87, 3), (76, .aload_n 1, 1), (77, .aload_n 2, 1), (78, .aload_n 3, 1), (79, .aload 5, 2), (81, .aload 6, 2), (83, .iload 9, 2), (85, .iload 10, 2), (87, .invokestatic 109, 3), (90, .istore 11, 2), (92, .iload 11, 2), (94, .ifCond .ge 22, 3), (97, .aload_n 0, 1), (98, .iload 9, 2), (100, .iload 10, 2), (102, .invokestatic 105, 3)]
theorem kL_sells_0 : ∀ q ∈ qL_sells_0, decode cL_sells q.1 = .ok q.2 := by decide +kernel
def qL_sells_1 : List (Nat × Instr × Nat) := [(105, .ldc 27, 2), (107, .if_icmp .ne 7, 3), (110, .iconst 1, 1), (111, .goto 4, 3), (114, .iconst 0, 1), (115, .ireturn, 1), (116, .aload_n 1, 1), (117, .aload_n 2, 1), (118, .aload_n 3, 1), (119, .aload 4, 2), (121, .aload 5, 2), (123, .aload 6, 2), (125, .iload 9, 2), (127, .iload 10, 2), (129, .iload 11, 2), (131, .invokestatic 112, 3), (134, .istore 12, 2), (136, .iload 12, 2), (138, .ifCond .lt 20, 3), (141, .aload_n 0, 1), (142, .iload 9, 2), (144, .iload 10, 2), (146, .invokestatic 105, 3), (149, .iload 11, 2), (151, .if_icmp .ne 7, 3), (154, .iconst 1, 1), (155, .goto 4, 3), (158, .iconst 0, 1), (159, .ireturn, 1), (160, .iload 7, 2), (162, .bipush 36, 2), (164, .idiv, 1), (165, .iload 7, 2), (167, .iconst 5, 1), (168, .irem, 1), (169, .ifCond .ne 8, 3), (172, .bipush 24, 2), (174, .goto 6, 3), (177, .aload_n 1, 1), (178, .iconst 0, 1), (179, .iaload, 1), (180, .irem, 1), (181, .istore 11, 2), (183, .aload_n 1, 1), (184, .aload 5, 2), (186, .aload 6, 2), (188, .iload 9, 2), (190, .iload 10, 2), (192, .iload 11, 2), (194, .invokestatic 78, 3), (197, .ifCond .le 39, 3), (200, .aload_n 0, 1), (201, .iload 9, 2), (203, .iload 10, 2), (205, .iload 11, 2), (207, .invokestatic 102, 3), (210, .ldc 27, 2), (212, .if_icmp .ne 22, 3), (215, .aload_n 0, 1), (216, .iload 9, 2)]
theorem kL_sells_1 : ∀ q ∈ qL_sells_1, decode cL_sells q.1 = .ok q.2 := by decide +kernel
def qL_sells_2 : List (Nat × Instr × Nat) := [(218, .iload 10, 2), (220, .bipush 24, 2), (222, .invokestatic 102, 3), (225, .ldc 17, 2), (227, .if_icmp .ne 7, 3), (230, .iconst 1, 1), (231, .goto 4, 3), (234, .iconst 0, 1), (235, .ireturn, 1), (236, .aload_n 1, 1), (237, .aload_n 2, 1), (238, .aload_n 3, 1), (239, .aload 4, 2), (241, .aload 5, 2), (243, .aload 6, 2), (245, .iload 9, 2), (247, .iload 10, 2), (249, .iload 11, 2), (251, .invokestatic 112, 3), (254, .istore 12, 2), (256, .aload_n 0, 1), (257, .iload 9, 2), (259, .iload 10, 2), (261, .iload 11, 2), (263, .invokestatic 102, 3), (266, .iload 12, 2), (268, .if_icmp .ne 7, 3), (271, .iconst 1, 1), (272, .goto 4, 3), (275, .iconst 0, 1), (276, .ireturn, 1)]
theorem kL_sells_2 : ∀ q ∈ qL_sells_2, decode cL_sells q.1 = .ok q.2 := by decide +kernel
def qL_sells : List (Nat × Instr × Nat) := qL_sells_0 ++ (qL_sells_1 ++ (qL_sells_2))
theorem kL_sells : ∀ q ∈ qL_sells, decode cL_sells q.1 = .ok q.2 := List.forall_mem_append.mpr ⟨kL_sells_0, List.forall_mem_append.mpr ⟨kL_sells_1, kL_sells_2⟩⟩
noncomputable def f_L_sells (K : Nat → Nat × Nat) (μ : Mm) (a0 : Nat) (a1 : Nat) (a2 : Nat) (a3 : Nat) (a4 : Nat) (a5 : Nat) (a6 : Nat) (a7 : Int32) (a8 : Int32) : Option (Int32 × Mm) :=
  gd (inb 8 (K a1).2) <| if (μ.1 a1 (ix 8)) = 0 then (gd (inb 9 (K a1).2) <| bd (fx_X7_print K μ a0 (μ.1 a1 (ix 9)) 0 24) fun q4 => gd (q4.1 = 1) <| lt1 q4.2 fun μ6 => gd (inb 8 (K a1).2) <| bd (fx_X7_printBest K μ6 a0 0 (μ6.1 a1 (ix 8))) fun q9 => gd (q9.1 = 1) <| lt1 q9.2 fun μ11 => some (1, μ11)) else (gd (inb 9 (K a1).2) <| if (μ.1 a1 (ix 9)) = 0 then (gd (inb 9 (K a1).2) <| bd (fx_X7_print K μ a0 (μ.1 a1 (ix 9)) 0 24) fun q63 => gd (q63.1 = 1) <| lt1 q63.2 fun μ65 => gd (inb 8 (K a1).2) <| bd (fx_X7_printBest K μ65 a0 0 (μ65.1 a1 (ix 8))) fun q68 => gd (q68.1 = 1) <| lt1 q68.2 fun μ70 => some (1, μ70)) else (gd (inb 9 (K a1).2) <| gd (¬ (μ.1 a1 (ix 9)) = 0) <| lt1 (α := Int32) (a7 - a7 / (μ.1 a1 (ix 9)) * (μ.1 a1 (ix 9))) fun x17 => gd (inb 8 (K a1).2) <| gd (¬ (μ.1 a1 (ix 8)) = 0) <| lt1 (α := Int32) ((a7 / 6) - (a7 / 6) / (μ.1 a1 (ix 8)) * (μ.1 a1 (ix 8))) fun x20 => if a8 = 0 then (bd (α := Int32) (if (a7 - a7 / 5 * 5) = 0 then (some 24) else (gd (inb 0 (K a1).2) <| some (μ.1 a1 (ix 0)))) fun x22 => gd (¬ x22 = 0) <| lt1 (α := Int32) ((a7 / 36) - (a7 / 36) / x22 * x22) fun x28 => bd (f_L_why K μ a1 a5 a6 x17 x20 x28) fun x30 => if x30 ≤ 0 then (bd (f_L_printed K μ a1 a2 a3 a4 a5 a6 x17 x20 x28) fun q32 => lt1 q32.1 fun x34 => lt1 q32.2 fun μ33 => bd (f_L_prints K μ33 a0 x17 x20 x28) fun q35 => lt1 q35.1 fun x37 => lt1 q35.2 fun μ36 => gd (x37 = x34) <| some (1, μ36)) else (bd (fx_X7_print K μ a0 x17 x20 x28) fun q39 => gd (q39.1 = 3) <| lt1 q39.2 fun μ41 => bd (fx_X7_print K μ41 a0 x17 x20 24) fun q43 => gd (q43.1 = 2) <| lt1 q43.2 fun μ45 => some (1, μ45))) else (bd (f_L_best K μ a1 a2 a3 a5 a6 x17 x20) fun x48 => if 0 ≤ x48 then (bd (f_L_printed K μ a1 a2 a3 a4 a5 a6 x17 x20 x48) fun q50 => lt1 q50.1 fun x52 => lt1 q50.2 fun μ51 => gd (¬ (x52 < 0)) <| bd (f_L_bests K μ51 a0 x17 x20) fun q54 => lt1 q54.1 fun x56 => lt1 q54.2 fun μ55 => gd (x56 = x48) <| some (1, μ55)) else (bd (fx_X7_printBest K μ a0 x17 x20) fun q58 => gd (q58.1 = 3) <| lt1 q58.2 fun μ60 => some (1, μ60)))))
set_option maxRecDepth 100000 in
set_option maxHeartbeats 4000000 in
theorem t_L_sells {l : Launch} {Z : ZZ} {X : XX} (μ : Mm) (a0 : Nat) (a1 : Nat) (a2 : Nat) (a3 : Nat) (a4 : Nat) (a5 : Nat) (a6 : Nat) (a7 : Int32) (a8 : Int32) (r : Int32) (μ' : Mm) (k0 : (zk Z a0).1 = 5) (k1 : (zk Z a1).1 = 8) (k2 : (zk Z a2).1 = 8) (k3 : (zk Z a3).1 = 8) (k4 : (zk Z a4).1 = 8) (k5 : (zk Z a5).1 = 8) (k6 : (zk Z a6).1 = 8) (h : f_L_sells (zk Z) μ a0 a1 a2 a3 a4 a5 a6 a7 a8 = some (r, μ')) (C : Cx l Z false X cL_sells RL 13 (some .boolean)) (hl : l.stackTraces = false) (E : Ex Z X 9 101 2156 (some (.int r)) Z μ') : G Z X 13 0 0 0 [(0, .ref (za Z a0)), (1, .ref (za Z a1)), (2, .ref (za Z a2)), (3, .ref (za Z a3)), (4, .ref (za Z a4)), (5, .ref (za Z a5)), (6, .ref (za Z a6)), (7, .int a7), (8, .int a8)] [] μ := by
  unfold f_L_sells at h
  refine g_aload_n C (i := 1) 1 rfl rfl (dk kL_sells 0 rfl) ?_
  refine g_bipush C (v := 8) (by decide) (dk kL_sells 1 rfl) ?_
  obtain ⟨c1, h⟩ := gd_inv h
  refine g_iald C k1 c1 (dk kL_sells 2 rfl) ?_
  refine g_if_eq C (tgt := 14) (dk kL_sells 3 rfl) (by decide) (fun c2 => ?_) (fun c2 => ?_)
  · replace h := ite_t h c2
    refine g_aload_n C (i := 0) 0 rfl rfl (dk kL_sells 8 rfl) ?_
    refine g_aload_n C (i := 1) 1 rfl rfl (dk kL_sells 9 rfl) ?_
    refine g_bipush C (v := 9) (by decide) (dk kL_sells 10 rfl) ?_
    obtain ⟨c3, h⟩ := gd_inv h
    refine g_iald C k1 c3 (dk kL_sells 11 rfl) ?_
    refine g_iconst C (v := 0) (by decide) (dk kL_sells 12 rfl) ?_
    refine g_bipush C (v := 24) (by decide) (dk kL_sells 13 rfl) ?_
    obtain ⟨q4, eq4, h⟩ := bd_inv h
    obtain ⟨c5, h⟩ := gd_inv h
    obtain ⟨μ6, eμ6, h⟩ := lt_inv h
    rw [show q4 = (1, μ6) from by rw [← c5, eμ6]] at eq4
    refine g_callSW C E.2 (rest := []) 4 (ctx1_L_prints k0 hl eq4) wd_3_75 mw_L_prints ⟨by decide, by decide, by decide⟩ rfl (by decide) rfl (Nat.le_of_ble_eq_true rfl) (by decide) (dk kL_sells 14 rfl) ?_
    refine g_ldc C (v := (-2000001)) (C.w wd_2_194) (dk kL_sells 15 rfl) ?_
    refine g_icmp_ne C (tgt := 48) (dk kL_sells 16 rfl) (by decide) (fun c => absurd c (by decide)) (fun c7 => ?_)
    refine g_aload_n C (i := 0) 0 rfl rfl (dk kL_sells 17 rfl) ?_
    refine g_iconst C (v := 0) (by decide) (dk kL_sells 18 rfl) ?_
    refine g_aload_n C (i := 1) 1 rfl rfl (dk kL_sells 19 rfl) ?_
    refine g_bipush C (v := 8) (by decide) (dk kL_sells 20 rfl) ?_
    obtain ⟨c8, h⟩ := gd_inv h
    refine g_iald C k1 c8 (dk kL_sells 21 rfl) ?_
    obtain ⟨q9, eq9, h⟩ := bd_inv h
    obtain ⟨c10, h⟩ := gd_inv h
    obtain ⟨μ11, eμ11, h⟩ := lt_inv h
    rw [show q9 = (1, μ11) from by rw [← c10, eμ11]] at eq9
    refine g_callSW C E.2 (rest := []) 3 (ctx1_L_bests k0 hl eq9) wd_3_136 mw_L_bests ⟨by decide, by decide, by decide⟩ rfl (by decide) rfl (Nat.le_of_ble_eq_true rfl) (by decide) (dk kL_sells 22 rfl) ?_
    refine g_ldc C (v := (-2000001)) (C.w wd_2_194) (dk kL_sells 23 rfl) ?_
    refine g_icmp_ne C (tgt := 48) (dk kL_sells 24 rfl) (by decide) (fun c => absurd c (by decide)) (fun c12 => ?_)
    refine g_iconst C (v := 1) (by decide) (dk kL_sells 25 rfl) ?_
    refine g_goto C (tgt := 49) (dk kL_sells 26 rfl) (by decide) ?_
    obtain ⟨h8, h9⟩ := Prod.mk.inj (Option.some.inj h)
    subst h8
    subst h9
    exact g_iret C E rfl rfl (by decide) (by decide) (dk kL_sells 28 rfl)
  · replace h := ite_f h c2
    refine g_aload_n C (i := 1) 1 rfl rfl (dk kL_sells 4 rfl) ?_
    refine g_bipush C (v := 9) (by decide) (dk kL_sells 5 rfl) ?_
    obtain ⟨c13, h⟩ := gd_inv h
    refine g_iald C k1 c13 (dk kL_sells 6 rfl) ?_
    refine g_if_ne C (tgt := 50) (dk kL_sells 7 rfl) (by decide) (fun c14 => ?_) (fun c14 => ?_)
    · replace h := ite_f h c14
      refine g_iload C (i := 7) 7 rfl (dk kL_sells 29 rfl) ?_
      refine g_aload_n C (i := 1) 1 rfl rfl (dk kL_sells 30 rfl) ?_
      refine g_bipush C (v := 9) (by decide) (dk kL_sells 31 rfl) ?_
      obtain ⟨c15, h⟩ := gd_inv h
      refine g_iald C k1 c15 (dk kL_sells 32 rfl) ?_
      obtain ⟨c16, h⟩ := gd_inv h
      refine g_irem C c16 (dk kL_sells 33 rfl) ?_
      obtain ⟨x17, ex17, h⟩ := lt_inv h
      refine g_nmi ex17 ?_
      refine g_istore C (i := 9) (lv' := [(9, .int x17), (0, .ref (za Z a0)), (1, .ref (za Z a1)), (2, .ref (za Z a2)), (3, .ref (za Z a3)), (4, .ref (za Z a4)), (5, .ref (za Z a5)), (6, .ref (za Z a6)), (7, .int a7), (8, .int a8)]) (dk kL_sells 34 rfl) (by decide) rfl ?_
      refine g_iload C (i := 7) 8 rfl (dk kL_sells 35 rfl) ?_
      refine g_bipush C (v := 6) (by decide) (dk kL_sells 36 rfl) ?_
      refine g_idiv C (by decide) (dk kL_sells 37 rfl) ?_
      refine g_aload_n C (i := 1) 2 rfl rfl (dk kL_sells 38 rfl) ?_
      refine g_bipush C (v := 8) (by decide) (dk kL_sells 39 rfl) ?_
      obtain ⟨c18, h⟩ := gd_inv h
      refine g_iald C k1 c18 (dk kL_sells 40 rfl) ?_
      obtain ⟨c19, h⟩ := gd_inv h
      refine g_irem C c19 (dk kL_sells 41 rfl) ?_
      obtain ⟨x20, ex20, h⟩ := lt_inv h
      refine g_nmi ex20 ?_
      refine g_istore C (i := 10) (lv' := [(10, .int x20), (9, .int x17), (0, .ref (za Z a0)), (1, .ref (za Z a1)), (2, .ref (za Z a2)), (3, .ref (za Z a3)), (4, .ref (za Z a4)), (5, .ref (za Z a5)), (6, .ref (za Z a6)), (7, .int a7), (8, .int a8)]) (dk kL_sells 42 rfl) (by decide) rfl ?_
      refine g_iload C (i := 8) 10 rfl (dk kL_sells 43 rfl) ?_
      refine g_if_eq C (tgt := 160) (dk kL_sells 44 rfl) (by decide) (fun c21 => ?_) (fun c21 => ?_)
      · replace h := ite_t h c21
        refine g_iload C (i := 7) 9 rfl (dk kL_sells 89 rfl) ?_
        refine g_bipush C (v := 36) (by decide) (dk kL_sells 90 rfl) ?_
        refine g_idiv C (by decide) (dk kL_sells 91 rfl) ?_
        refine g_iload C (i := 7) 9 rfl (dk kL_sells 92 rfl) ?_
        refine g_iconst C (v := 5) (by decide) (dk kL_sells 93 rfl) ?_
        refine g_irem C (by decide) (dk kL_sells 94 rfl) ?_
        obtain ⟨x22, hx24, h⟩ := bd_inv h
        have kj23 : G Z X 13 0 0 180 [(10, .int x20), (9, .int x17), (0, .ref (za Z a0)), (1, .ref (za Z a1)), (2, .ref (za Z a2)), (3, .ref (za Z a3)), (4, .ref (za Z a4)), (5, .ref (za Z a5)), (6, .ref (za Z a6)), (7, .int a7), (8, .int a8)] [.int x22, .int (a7 / 36)] μ := by
          obtain ⟨c27, h⟩ := gd_inv h
          refine g_irem C c27 (dk kL_sells 101 rfl) ?_
          obtain ⟨x28, ex28, h⟩ := lt_inv h
          refine g_nmi ex28 ?_
          refine g_istore C (i := 11) (lv' := [(11, .int x28), (10, .int x20), (9, .int x17), (0, .ref (za Z a0)), (1, .ref (za Z a1)), (2, .ref (za Z a2)), (3, .ref (za Z a3)), (4, .ref (za Z a4)), (5, .ref (za Z a5)), (6, .ref (za Z a6)), (7, .int a7), (8, .int a8)]) (dk kL_sells 102 rfl) (by decide) rfl ?_
          refine g_aload_n C (i := 1) 4 rfl rfl (dk kL_sells 103 rfl) ?_
          refine g_aload C (i := 5) 8 rfl (dk kL_sells 104 rfl) ?_
          refine g_aload C (i := 6) 9 rfl (dk kL_sells 105 rfl) ?_
          refine g_iload C (i := 9) 2 rfl (dk kL_sells 106 rfl) ?_
          refine g_iload C (i := 10) 1 rfl (dk kL_sells 107 rfl) ?_
          refine g_iload C (i := 11) 0 rfl (dk kL_sells 108 rfl) ?_
          obtain ⟨x30, eq29, h⟩ := bd_inv h
          refine g_callS C E.2 (rest := []) 6 (ct_L_why k1 k5 k6 eq29) wd_3_171 mm_L_why ⟨by decide, by decide, by decide⟩ rfl (by decide) rfl (Nat.le_of_ble_eq_true rfl) (by decide) (dk kL_sells 109 rfl) ?_
          refine g_if_le C (tgt := 236) (dk kL_sells 110 rfl) (by decide) (fun c31 => ?_) (fun c31 => ?_)
          · replace h := ite_t h c31
            refine g_aload_n C (i := 1) 4 rfl rfl (dk kL_sells 129 rfl) ?_
            refine g_aload_n C (i := 2) 5 rfl rfl (dk kL_sells 130 rfl) ?_
            refine g_aload_n C (i := 3) 6 rfl rfl (dk kL_sells 131 rfl) ?_
            refine g_aload C (i := 4) 7 rfl (dk kL_sells 132 rfl) ?_
            refine g_aload C (i := 5) 8 rfl (dk kL_sells 133 rfl) ?_
            refine g_aload C (i := 6) 9 rfl (dk kL_sells 134 rfl) ?_
            refine g_iload C (i := 9) 2 rfl (dk kL_sells 135 rfl) ?_
            refine g_iload C (i := 10) 1 rfl (dk kL_sells 136 rfl) ?_
            refine g_iload C (i := 11) 0 rfl (dk kL_sells 137 rfl) ?_
            obtain ⟨q32, eq32, h⟩ := bd_inv h
            obtain ⟨x34, ex34, h⟩ := lt_inv h
            obtain ⟨μ33, eμ33, h⟩ := lt_inv h
            rw [show q32 = (x34, μ33) from by rw [ex34, eμ33]] at eq32
            refine g_callS C E.2 (rest := []) 9 (ct_L_printed k1 k2 k3 k4 k5 k6 eq32) wd_3_192 mm_L_printed ⟨by decide, by decide, by decide⟩ rfl (by decide) rfl (Nat.le_of_ble_eq_true rfl) (by decide) (dk kL_sells 138 rfl) ?_
            refine g_istore C (i := 12) (lv' := [(12, .int x34), (11, .int x28), (10, .int x20), (9, .int x17), (0, .ref (za Z a0)), (1, .ref (za Z a1)), (2, .ref (za Z a2)), (3, .ref (za Z a3)), (4, .ref (za Z a4)), (5, .ref (za Z a5)), (6, .ref (za Z a6)), (7, .int a7), (8, .int a8)]) (dk kL_sells 139 rfl) (by decide) rfl ?_
            refine g_aload_n C (i := 0) 4 rfl rfl (dk kL_sells 140 rfl) ?_
            refine g_iload C (i := 9) 3 rfl (dk kL_sells 141 rfl) ?_
            refine g_iload C (i := 10) 2 rfl (dk kL_sells 142 rfl) ?_
            refine g_iload C (i := 11) 1 rfl (dk kL_sells 143 rfl) ?_
            obtain ⟨q35, eq35, h⟩ := bd_inv h
            obtain ⟨x37, ex37, h⟩ := lt_inv h
            obtain ⟨μ36, eμ36, h⟩ := lt_inv h
            rw [show q35 = (x37, μ36) from by rw [ex37, eμ36]] at eq35
            refine g_callSW C E.2 (rest := []) 4 (ct_L_prints k0 eq35) wd_3_75 mw_L_prints ⟨by decide, by decide, by decide⟩ rfl (by decide) rfl (Nat.le_of_ble_eq_true rfl) (by decide) (dk kL_sells 144 rfl) ?_
            refine g_iload C (i := 12) 0 rfl (dk kL_sells 145 rfl) ?_
            obtain ⟨c38, h⟩ := gd_inv h
            refine g_icmp_ne C (tgt := 275) (dk kL_sells 146 rfl) (by decide) (fun q => absurd c38 q) (fun _ => ?_)
            refine g_iconst C (v := 1) (by decide) (dk kL_sells 147 rfl) ?_
            refine g_goto C (tgt := 276) (dk kL_sells 148 rfl) (by decide) ?_
            obtain ⟨h8, h9⟩ := Prod.mk.inj (Option.some.inj h)
            subst h8
            subst h9
            exact g_iret C E rfl rfl (by decide) (by decide) (dk kL_sells 150 rfl)
          · replace h := ite_f h c31
            refine g_aload_n C (i := 0) 3 rfl rfl (dk kL_sells 111 rfl) ?_
            refine g_iload C (i := 9) 2 rfl (dk kL_sells 112 rfl) ?_
            refine g_iload C (i := 10) 1 rfl (dk kL_sells 113 rfl) ?_
            refine g_iload C (i := 11) 0 rfl (dk kL_sells 114 rfl) ?_
            obtain ⟨q39, eq39, h⟩ := bd_inv h
            obtain ⟨c40, h⟩ := gd_inv h
            obtain ⟨μ41, eμ41, h⟩ := lt_inv h
            rw [show q39 = (3, μ41) from by rw [← c40, eμ41]] at eq39
            refine g_callSW C E.2 (rest := []) 4 (ctx3_L_prints k0 hl eq39) wd_3_75 mw_L_prints ⟨by decide, by decide, by decide⟩ rfl (by decide) rfl (Nat.le_of_ble_eq_true rfl) (by decide) (dk kL_sells 115 rfl) ?_
            refine g_ldc C (v := (-2000003)) (C.w wd_2_169) (dk kL_sells 116 rfl) ?_
            refine g_icmp_ne C (tgt := 234) (dk kL_sells 117 rfl) (by decide) (fun c => absurd c (by decide)) (fun c42 => ?_)
            refine g_aload_n C (i := 0) 3 rfl rfl (dk kL_sells 118 rfl) ?_
            refine g_iload C (i := 9) 2 rfl (dk kL_sells 119 rfl) ?_
            refine g_iload C (i := 10) 1 rfl (dk kL_sells 120 rfl) ?_
            refine g_bipush C (v := 24) (by decide) (dk kL_sells 121 rfl) ?_
            obtain ⟨q43, eq43, h⟩ := bd_inv h
            obtain ⟨c44, h⟩ := gd_inv h
            obtain ⟨μ45, eμ45, h⟩ := lt_inv h
            rw [show q43 = (2, μ45) from by rw [← c44, eμ45]] at eq43
            refine g_callSW C E.2 (rest := []) 4 (ctx2_L_prints k0 hl eq43) wd_3_75 mw_L_prints ⟨by decide, by decide, by decide⟩ rfl (by decide) rfl (Nat.le_of_ble_eq_true rfl) (by decide) (dk kL_sells 122 rfl) ?_
            refine g_ldc C (v := (-2000002)) (C.w wd_2_133) (dk kL_sells 123 rfl) ?_
            refine g_icmp_ne C (tgt := 234) (dk kL_sells 124 rfl) (by decide) (fun c => absurd c (by decide)) (fun c46 => ?_)
            refine g_iconst C (v := 1) (by decide) (dk kL_sells 125 rfl) ?_
            refine g_goto C (tgt := 235) (dk kL_sells 126 rfl) (by decide) ?_
            obtain ⟨h8, h9⟩ := Prod.mk.inj (Option.some.inj h)
            subst h8
            subst h9
            exact g_iret C E rfl rfl (by decide) (by decide) (dk kL_sells 128 rfl)
        clear h
        have h := hx24
        clear hx24
        refine g_if_ne C (tgt := 177) (dk kL_sells 95 rfl) (by decide) (fun c25 => ?_) (fun c25 => ?_)
        · replace h := ite_f h c25
          refine g_aload_n C (i := 1) 3 rfl rfl (dk kL_sells 98 rfl) ?_
          refine g_iconst C (v := 0) (by decide) (dk kL_sells 99 rfl) ?_
          obtain ⟨c26, h⟩ := gd_inv h
          refine g_iald C k1 c26 (dk kL_sells 100 rfl) ?_
          have h9 := Option.some.inj h
          subst h9
          exact kj23
        · replace h := ite_t h c25
          refine g_bipush C (v := 24) (by decide) (dk kL_sells 96 rfl) ?_
          refine g_goto C (tgt := 180) (dk kL_sells 97 rfl) (by decide) ?_
          have h9 := Option.some.inj h
          subst h9
          exact kj23
      · replace h := ite_f h c21
        refine g_aload_n C (i := 1) 3 rfl rfl (dk kL_sells 45 rfl) ?_
        refine g_aload_n C (i := 2) 4 rfl rfl (dk kL_sells 46 rfl) ?_
        refine g_aload_n C (i := 3) 5 rfl rfl (dk kL_sells 47 rfl) ?_
        refine g_aload C (i := 5) 7 rfl (dk kL_sells 48 rfl) ?_
        refine g_aload C (i := 6) 8 rfl (dk kL_sells 49 rfl) ?_
        refine g_iload C (i := 9) 1 rfl (dk kL_sells 50 rfl) ?_
        refine g_iload C (i := 10) 0 rfl (dk kL_sells 51 rfl) ?_
        obtain ⟨x48, eq47, h⟩ := bd_inv h
        refine g_callS C E.2 (rest := []) 7 (ct_L_best k1 k2 k3 k5 k6 eq47) wd_3_168 mm_L_best ⟨by decide, by decide, by decide⟩ rfl (by decide) rfl (Nat.le_of_ble_eq_true rfl) (by decide) (dk kL_sells 52 rfl) ?_
        refine g_istore C (i := 11) (lv' := [(11, .int x48), (10, .int x20), (9, .int x17), (0, .ref (za Z a0)), (1, .ref (za Z a1)), (2, .ref (za Z a2)), (3, .ref (za Z a3)), (4, .ref (za Z a4)), (5, .ref (za Z a5)), (6, .ref (za Z a6)), (7, .int a7), (8, .int a8)]) (dk kL_sells 53 rfl) (by decide) rfl ?_
        refine g_iload C (i := 11) 0 rfl (dk kL_sells 54 rfl) ?_
        refine g_if_ge C (tgt := 116) (dk kL_sells 55 rfl) (by decide) (fun c49 => ?_) (fun c49 => ?_)
        · replace h := ite_t h c49
          refine g_aload_n C (i := 1) 4 rfl rfl (dk kL_sells 66 rfl) ?_
          refine g_aload_n C (i := 2) 5 rfl rfl (dk kL_sells 67 rfl) ?_
          refine g_aload_n C (i := 3) 6 rfl rfl (dk kL_sells 68 rfl) ?_
          refine g_aload C (i := 4) 7 rfl (dk kL_sells 69 rfl) ?_
          refine g_aload C (i := 5) 8 rfl (dk kL_sells 70 rfl) ?_
          refine g_aload C (i := 6) 9 rfl (dk kL_sells 71 rfl) ?_
          refine g_iload C (i := 9) 2 rfl (dk kL_sells 72 rfl) ?_
          refine g_iload C (i := 10) 1 rfl (dk kL_sells 73 rfl) ?_
          refine g_iload C (i := 11) 0 rfl (dk kL_sells 74 rfl) ?_
          obtain ⟨q50, eq50, h⟩ := bd_inv h
          obtain ⟨x52, ex52, h⟩ := lt_inv h
          obtain ⟨μ51, eμ51, h⟩ := lt_inv h
          rw [show q50 = (x52, μ51) from by rw [ex52, eμ51]] at eq50
          refine g_callS C E.2 (rest := []) 9 (ct_L_printed k1 k2 k3 k4 k5 k6 eq50) wd_3_192 mm_L_printed ⟨by decide, by decide, by decide⟩ rfl (by decide) rfl (Nat.le_of_ble_eq_true rfl) (by decide) (dk kL_sells 75 rfl) ?_
          refine g_istore C (i := 12) (lv' := [(12, .int x52), (11, .int x48), (10, .int x20), (9, .int x17), (0, .ref (za Z a0)), (1, .ref (za Z a1)), (2, .ref (za Z a2)), (3, .ref (za Z a3)), (4, .ref (za Z a4)), (5, .ref (za Z a5)), (6, .ref (za Z a6)), (7, .int a7), (8, .int a8)]) (dk kL_sells 76 rfl) (by decide) rfl ?_
          refine g_iload C (i := 12) 0 rfl (dk kL_sells 77 rfl) ?_
          obtain ⟨c53, h⟩ := gd_inv h
          refine g_if_lt C (tgt := 158) (dk kL_sells 78 rfl) (by decide) (fun q => absurd q c53) (fun _ => ?_)
          refine g_aload_n C (i := 0) 4 rfl rfl (dk kL_sells 79 rfl) ?_
          refine g_iload C (i := 9) 3 rfl (dk kL_sells 80 rfl) ?_
          refine g_iload C (i := 10) 2 rfl (dk kL_sells 81 rfl) ?_
          obtain ⟨q54, eq54, h⟩ := bd_inv h
          obtain ⟨x56, ex56, h⟩ := lt_inv h
          obtain ⟨μ55, eμ55, h⟩ := lt_inv h
          rw [show q54 = (x56, μ55) from by rw [ex56, eμ55]] at eq54
          refine g_callSW C E.2 (rest := []) 3 (ct_L_bests k0 eq54) wd_3_136 mw_L_bests ⟨by decide, by decide, by decide⟩ rfl (by decide) rfl (Nat.le_of_ble_eq_true rfl) (by decide) (dk kL_sells 82 rfl) ?_
          refine g_iload C (i := 11) 1 rfl (dk kL_sells 83 rfl) ?_
          obtain ⟨c57, h⟩ := gd_inv h
          refine g_icmp_ne C (tgt := 158) (dk kL_sells 84 rfl) (by decide) (fun q => absurd c57 q) (fun _ => ?_)
          refine g_iconst C (v := 1) (by decide) (dk kL_sells 85 rfl) ?_
          refine g_goto C (tgt := 159) (dk kL_sells 86 rfl) (by decide) ?_
          obtain ⟨h8, h9⟩ := Prod.mk.inj (Option.some.inj h)
          subst h8
          subst h9
          exact g_iret C E rfl rfl (by decide) (by decide) (dk kL_sells 88 rfl)
        · replace h := ite_f h c49
          refine g_aload_n C (i := 0) 3 rfl rfl (dk kL_sells 56 rfl) ?_
          refine g_iload C (i := 9) 2 rfl (dk kL_sells 57 rfl) ?_
          refine g_iload C (i := 10) 1 rfl (dk kL_sells 58 rfl) ?_
          obtain ⟨q58, eq58, h⟩ := bd_inv h
          obtain ⟨c59, h⟩ := gd_inv h
          obtain ⟨μ60, eμ60, h⟩ := lt_inv h
          rw [show q58 = (3, μ60) from by rw [← c59, eμ60]] at eq58
          refine g_callSW C E.2 (rest := []) 3 (ctx3_L_bests k0 hl eq58) wd_3_136 mw_L_bests ⟨by decide, by decide, by decide⟩ rfl (by decide) rfl (Nat.le_of_ble_eq_true rfl) (by decide) (dk kL_sells 59 rfl) ?_
          refine g_ldc C (v := (-2000003)) (C.w wd_2_169) (dk kL_sells 60 rfl) ?_
          refine g_icmp_ne C (tgt := 114) (dk kL_sells 61 rfl) (by decide) (fun c => absurd c (by decide)) (fun c61 => ?_)
          refine g_iconst C (v := 1) (by decide) (dk kL_sells 62 rfl) ?_
          refine g_goto C (tgt := 115) (dk kL_sells 63 rfl) (by decide) ?_
          obtain ⟨h8, h9⟩ := Prod.mk.inj (Option.some.inj h)
          subst h8
          subst h9
          exact g_iret C E rfl rfl (by decide) (by decide) (dk kL_sells 65 rfl)
    · replace h := ite_t h c14
      refine g_aload_n C (i := 0) 0 rfl rfl (dk kL_sells 8 rfl) ?_
      refine g_aload_n C (i := 1) 1 rfl rfl (dk kL_sells 9 rfl) ?_
      refine g_bipush C (v := 9) (by decide) (dk kL_sells 10 rfl) ?_
      obtain ⟨c62, h⟩ := gd_inv h
      refine g_iald C k1 c62 (dk kL_sells 11 rfl) ?_
      refine g_iconst C (v := 0) (by decide) (dk kL_sells 12 rfl) ?_
      refine g_bipush C (v := 24) (by decide) (dk kL_sells 13 rfl) ?_
      obtain ⟨q63, eq63, h⟩ := bd_inv h
      obtain ⟨c64, h⟩ := gd_inv h
      obtain ⟨μ65, eμ65, h⟩ := lt_inv h
      rw [show q63 = (1, μ65) from by rw [← c64, eμ65]] at eq63
      refine g_callSW C E.2 (rest := []) 4 (ctx1_L_prints k0 hl eq63) wd_3_75 mw_L_prints ⟨by decide, by decide, by decide⟩ rfl (by decide) rfl (Nat.le_of_ble_eq_true rfl) (by decide) (dk kL_sells 14 rfl) ?_
      refine g_ldc C (v := (-2000001)) (C.w wd_2_194) (dk kL_sells 15 rfl) ?_
      refine g_icmp_ne C (tgt := 48) (dk kL_sells 16 rfl) (by decide) (fun c => absurd c (by decide)) (fun c66 => ?_)
      refine g_aload_n C (i := 0) 0 rfl rfl (dk kL_sells 17 rfl) ?_
      refine g_iconst C (v := 0) (by decide) (dk kL_sells 18 rfl) ?_
      refine g_aload_n C (i := 1) 1 rfl rfl (dk kL_sells 19 rfl) ?_
      refine g_bipush C (v := 8) (by decide) (dk kL_sells 20 rfl) ?_
      obtain ⟨c67, h⟩ := gd_inv h
      refine g_iald C k1 c67 (dk kL_sells 21 rfl) ?_
      obtain ⟨q68, eq68, h⟩ := bd_inv h
      obtain ⟨c69, h⟩ := gd_inv h
      obtain ⟨μ70, eμ70, h⟩ := lt_inv h
      rw [show q68 = (1, μ70) from by rw [← c69, eμ70]] at eq68
      refine g_callSW C E.2 (rest := []) 3 (ctx1_L_bests k0 hl eq68) wd_3_136 mw_L_bests ⟨by decide, by decide, by decide⟩ rfl (by decide) rfl (Nat.le_of_ble_eq_true rfl) (by decide) (dk kL_sells 22 rfl) ?_
      refine g_ldc C (v := (-2000001)) (C.w wd_2_194) (dk kL_sells 23 rfl) ?_
      refine g_icmp_ne C (tgt := 48) (dk kL_sells 24 rfl) (by decide) (fun c => absurd c (by decide)) (fun c71 => ?_)
      refine g_iconst C (v := 1) (by decide) (dk kL_sells 25 rfl) ?_
      refine g_goto C (tgt := 49) (dk kL_sells 26 rfl) (by decide) ?_
      obtain ⟨h8, h9⟩ := Prod.mk.inj (Option.some.inj h)
      subst h8
      subst h9
      exact g_iret C E rfl rfl (by decide) (by decide) (dk kL_sells 28 rfl)
theorem ct_L_sells {l : Launch} {Z : ZZ} {μ : Mm} {a0 : Nat} {a1 : Nat} {a2 : Nat} {a3 : Nat} {a4 : Nat} {a5 : Nat} {a6 : Nat} {a7 : Int32} {a8 : Int32} {r : Int32} {μ' : Mm} (k0 : (zk Z a0).1 = 5) (k1 : (zk Z a1).1 = 8) (k2 : (zk Z a2).1 = 8) (k3 : (zk Z a3).1 = 8) (k4 : (zk Z a4).1 = 8) (k5 : (zk Z a5).1 = 8) (k6 : (zk Z a6).1 = 8) (hl : l.stackTraces = false) (h : f_L_sells (zk Z) μ a0 a1 a2 a3 a4 a5 a6 a7 a8 = some (r, μ')) : CtM l Z false yL_sells cL_sells 13 (some .boolean) 9 101 2156 [.ref (za Z a0), .ref (za Z a1), .ref (za Z a2), .ref (za Z a3), .ref (za Z a4), .ref (za Z a5), .ref (za Z a6), .int a7, .int a8] μ (some (.int r)) Z μ' := ct_of rfl rfl (Nat.le_of_ble_eq_true rfl) (fun X C E => t_L_sells μ a0 a1 a2 a3 a4 a5 a6 a7 a8 r μ' k0 k1 k2 k3 k4 k5 k6 h C hl E)
