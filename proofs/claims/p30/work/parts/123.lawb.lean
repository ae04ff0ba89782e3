def qL_best : List (Nat × Instr × Nat) := [(0, .iconst (-1), 1), (1, .istore 7, 2), (3, .iconst 0, 1), (4, .istore 8, 2), (6, .iconst 0, 1), (7, .istore 9, 2), (9, .bipush 23, 2), (11, .istore 10, 2), (13, .iload 10, 2), (15, .ifCond .lt 92, 3), (18, .aload_n 0, 1), (19, .aload_n 3, 1), (20, .aload 4, 2), (22, .iload 5, 2), (24, .iload 6, 2), (26, .iload 10, 2), (28, .invokestatic 78, 3), (31, .ifCond .ne 70, 3), (34, .aload_n 0, 1), (35, .aload_n 1, 1), (36, .aload_n 2, 1), (37, .aload_n 3, 1), (38, .iload 6, 2), (40, .iload 10, 2), (42, .invokestatic 82, 3), (45, .istore 11, 2), (47, .aload_n 0, 1), (48, .aload_n 2, 1), (49, .aload_n 3, 1), (50, .aload 4, 2), (52, .iload 5, 2), (54, .iload 6, 2), (56, .iload 10, 2), (58, .invokestatic 86, 3), (61, .istore 12, 2), (63, .iload 7, 2), (65, .ifCond .lt 24, 3), (68, .iload 11, 2), (70, .iload 8, 2), (72, .if_icmp .lt 17, 3), (75, .iload 11, 2), (77, .iload 8, 2), (79, .if_icmp .ne 22, 3), (82, .iload 12, 2), (84, .iload 9, 2), (86, .if_icmp .gt 15, 3), (89, .iload 10, 2), (91, .istore 7, 2), (93, .iload 11, 2), (95, .istore 8, 2), (97, .iload 12, 2), (99, .istore 9, 2), (101, .iinc 10 (-1), 3), (104, .goto (-91), 3), (107, .iload 7, 2), (109, .ireturn, 1)]
theorem kL_best : ∀ q ∈ qL_best, decode cL_best q.1 = .ok q.2 := by decide +kernel
noncomputable def f_L_best_l13 (K : Nat → Nat × Nat) (μ : Mm) (v0 : Nat) (v1 : Nat) (v2 : Nat) (v3 : Nat) (v4 : Nat) (v5 : Int32) (v6 : Int32) : Nat → Int32 → Int32 → Int32 → Int32 → Option (Int32)
  | 0, _, _, _, _ => none
  | n + 1, v7, v8, v9, v10 => if v10 < 0 then (some v7) else (bd (f_L_why K μ v0 v3 v4 v5 v6 v10) fun x3 => if x3 = 0 then (bd (f_L_unread K μ v0 v1 v2 v3 v6 v10) fun x7 => bd (f_L_price K μ v0 v2 v3 v4 v5 v6 v10) fun x9 => if v7 < 0 then (lt1 (α := Int32) (v10 + (-1)) fun x11 => f_L_best_l13 K μ v0 v1 v2 v3 v4 v5 v6 n v10 x7 x9 x11) else (if x7 < v8 then (lt1 (α := Int32) (v10 + (-1)) fun x13 => f_L_best_l13 K μ v0 v1 v2 v3 v4 v5 v6 n v10 x7 x9 x13) else (if x7 = v8 then (if v9 < x9 then (lt1 (α := Int32) (v10 + (-1)) fun x17 => f_L_best_l13 K μ v0 v1 v2 v3 v4 v5 v6 n v7 v8 v9 x17) else (lt1 (α := Int32) (v10 + (-1)) fun x18 => f_L_best_l13 K μ v0 v1 v2 v3 v4 v5 v6 n v10 x7 x9 x18)) else (lt1 (α := Int32) (v10 + (-1)) fun x15 => f_L_best_l13 K μ v0 v1 v2 v3 v4 v5 v6 n v7 v8 v9 x15)))) else (lt1 (α := Int32) (v10 + (-1)) fun x5 => f_L_best_l13 K μ v0 v1 v2 v3 v4 v5 v6 n v7 v8 v9 x5))
noncomputable def f_L_best (K : Nat → Nat × Nat) (μ : Mm) (a0 : Nat) (a1 : Nat) (a2 : Nat) (a3 : Nat) (a4 : Nat) (a5 : Int32) (a6 : Int32) : Option (Int32) :=
  bd (f_L_best_l13 K μ a0 a1 a2 a3 a4 a5 a6 25 (-1) 0 0 23) fun q19 => lt1 q19 fun x20 => some x20
set_option maxRecDepth 100000 in
set_option maxHeartbeats 4000000 in
theorem gl_L_best_13 {l : Launch} {Z : ZZ} {X : XX} (v0 : Nat) (v1 : Nat) (v2 : Nat) (v3 : Nat) (v4 : Nat) (v5 : Int32) (v6 : Int32) (k0 : (zk Z v0).1 = 8) (k1 : (zk Z v1).1 = 8) (k2 : (zk Z v2).1 = 8) (k3 : (zk Z v3).1 = 8) (k4 : (zk Z v4).1 = 8) (μ : Mm) (C : Cx l Z false X cL_best RL 13 (some .int)) (E : xR X = rmm 3 100 2150) : ∀ (n : Nat), n ≤ 25 → ∀ (v7 : Int32) (v8 : Int32) (v9 : Int32) (v10 : Int32) (y : Int32), f_L_best_l13 (zk Z) μ v0 v1 v2 v3 v4 v5 v6 n v7 v8 v9 v10 = some y → G Z X 13 100 2150 107 [(7, .int y)] [] (μ) → G Z X 13 (4 * (25 - n)) (86 * (25 - n)) 13 [(0, .ref (za Z v0)), (1, .ref (za Z v1)), (2, .ref (za Z v2)), (3, .ref (za Z v3)), (4, .ref (za Z v4)), (5, .int v5), (6, .int v6), (7, .int v7), (8, .int v8), (9, .int v9), (10, .int v10)] [] μ := by
  intro n
  induction n with
  | zero => intro hn v7 v8 v9 v10 y h he; unfold f_L_best_l13 at h; cases h
  | succ n ih =>
    intro hn v7 v8 v9 v10 y h he
    unfold f_L_best_l13 at h
    refine g_iload C (i := 10) 10 rfl (dk kL_best 8 rfl) ?_
    refine g_if_lt C (tgt := 107) (dk kL_best 9 rfl) (by decide) (fun c1 => ?_) (fun c1 => ?_)
    · replace h := ite_t h c1
      cases h
      exact g_sub [7] rfl (g_widen (by omega) (by omega) he)
    · replace h := ite_f h c1
      refine g_aload_n C (i := 0) 0 rfl rfl (dk kL_best 10 rfl) ?_
      refine g_aload_n C (i := 3) 3 rfl rfl (dk kL_best 11 rfl) ?_
      refine g_aload C (i := 4) 4 rfl (dk kL_best 12 rfl) ?_
      refine g_iload C (i := 5) 5 rfl (dk kL_best 13 rfl) ?_
      refine g_iload C (i := 6) 6 rfl (dk kL_best 14 rfl) ?_
      refine g_iload C (i := 10) 10 rfl (dk kL_best 15 rfl) ?_
      obtain ⟨x3, eq2, h⟩ := bd_inv h
      refine g_callS C E (rest := []) 6 (ct_L_why k0 k3 k4 eq2) wd_3_171 mm_L_why ⟨by decide, by decide, by decide⟩ rfl (by decide) rfl (Nat.le_of_ble_eq_true rfl) ⟨by omega, by omega⟩ (dk kL_best 16 rfl) ?_
      refine g_if_ne C (tgt := 101) (dk kL_best 17 rfl) (by decide) (fun c4 => ?_) (fun c4 => ?_)
      · replace h := ite_f h c4
        obtain ⟨x5, ex5, h⟩ := lt_inv h
        refine g_iinc C (i := 10) (v := x5) (lv' := [(10, .int x5), (0, .ref (za Z v0)), (1, .ref (za Z v1)), (2, .ref (za Z v2)), (3, .ref (za Z v3)), (4, .ref (za Z v4)), (5, .int v5), (6, .int v6), (7, .int v7), (8, .int v8), (9, .int v9)]) 10 (dk kL_best 52 rfl) rfl (by rw [ex5]; rfl) (by decide) rfl ?_
        refine g_goto C (tgt := 13) (dk kL_best 53 rfl) (by decide) ?_
        exact g_sub [1, 2, 3, 4, 5, 6, 7, 8, 9, 10, 0] rfl (g_widen (by omega) (by omega) (ih (by omega) v7 v8 v9 x5 y h he))
      · replace h := ite_t h c4
        refine g_aload_n C (i := 0) 0 rfl rfl (dk kL_best 18 rfl) ?_
        refine g_aload_n C (i := 1) 1 rfl rfl (dk kL_best 19 rfl) ?_
        refine g_aload_n C (i := 2) 2 rfl rfl (dk kL_best 20 rfl) ?_
        refine g_aload_n C (i := 3) 3 rfl rfl (dk kL_best 21 rfl) ?_
        refine g_iload C (i := 6) 6 rfl (dk kL_best 22 rfl) ?_
        refine g_iload C (i := 10) 10 rfl (dk kL_best 23 rfl) ?_
        obtain ⟨x7, eq6, h⟩ := bd_inv h
        refine g_callS C E (rest := []) 6 (ct_L_unread k0 k1 k2 k3 eq6) wd_3_177 mm_L_unread ⟨by decide, by decide, by decide⟩ rfl (by decide) rfl (Nat.le_of_ble_eq_true rfl) ⟨by omega, by omega⟩ (dk kL_best 24 rfl) ?_
        refine g_istore C (i := 11) (lv' := [(11, .int x7), (0, .ref (za Z v0)), (1, .ref (za Z v1)), (2, .ref (za Z v2)), (3, .ref (za Z v3)), (4, .ref (za Z v4)), (5, .int v5), (6, .int v6), (7, .int v7), (8, .int v8), (9, .int v9), (10, .int v10)]) (dk kL_best 25 rfl) (by decide) rfl ?_
        refine g_aload_n C (i := 0) 1 rfl rfl (dk kL_best 26 rfl) ?_
        refine g_aload_n C (i := 2) 3 rfl rfl (dk kL_best 27 rfl) ?_
        refine g_aload_n C (i := 3) 4 rfl rfl (dk kL_best 28 rfl) ?_
        refine g_aload C (i := 4) 5 rfl (dk kL_best 29 rfl) ?_
        refine g_iload C (i := 5) 6 rfl (dk kL_best 30 rfl) ?_
        refine g_iload C (i := 6) 7 rfl (dk kL_best 31 rfl) ?_
        refine g_iload C (i := 10) 11 rfl (dk kL_best 32 rfl) ?_
        obtain ⟨x9, eq8, h⟩ := bd_inv h
        refine g_callS C E (rest := []) 7 (ct_L_price k0 k2 k3 k4 eq8) wd_3_189 mm_L_price ⟨by decide, by decide, by decide⟩ rfl (by decide) rfl (Nat.le_of_ble_eq_true rfl) ⟨by omega, by omega⟩ (dk kL_best 33 rfl) ?_
        refine g_istore C (i := 12) (lv' := [(12, .int x9), (11, .int x7), (0, .ref (za Z v0)), (1, .ref (za Z v1)), (2, .ref (za Z v2)), (3, .ref (za Z v3)), (4, .ref (za Z v4)), (5, .int v5), (6, .int v6), (7, .int v7), (8, .int v8), (9, .int v9), (10, .int v10)]) (dk kL_best 34 rfl) (by decide) rfl ?_
        refine g_iload C (i := 7) 9 rfl (dk kL_best 35 rfl) ?_
        refine g_if_lt C (tgt := 89) (dk kL_best 36 rfl) (by decide) (fun c10 => ?_) (fun c10 => ?_)
        · replace h := ite_t h c10
          refine g_iload C (i := 10) 12 rfl (dk kL_best 46 rfl) ?_
          refine g_istore C (i := 7) (lv' := [(7, .int v10), (12, .int x9), (11, .int x7), (0, .ref (za Z v0)), (1, .ref (za Z v1)), (2, .ref (za Z v2)), (3, .ref (za Z v3)), (4, .ref (za Z v4)), (5, .int v5), (6, .int v6), (8, .int v8), (9, .int v9), (10, .int v10)]) (dk kL_best 47 rfl) (by decide) rfl ?_
          refine g_iload C (i := 11) 2 rfl (dk kL_best 48 rfl) ?_
          refine g_istore C (i := 8) (lv' := [(8, .int x7), (7, .int v10), (12, .int x9), (11, .int x7), (0, .ref (za Z v0)), (1, .ref (za Z v1)), (2, .ref (za Z v2)), (3, .ref (za Z v3)), (4, .ref (za Z v4)), (5, .int v5), (6, .int v6), (9, .int v9), (10, .int v10)]) (dk kL_best 49 rfl) (by decide) rfl ?_
          refine g_iload C (i := 12) 2 rfl (dk kL_best 50 rfl) ?_
          refine g_istore C (i := 9) (lv' := [(9, .int x9), (8, .int x7), (7, .int v10), (12, .int x9), (11, .int x7), (0, .ref (za Z v0)), (1, .ref (za Z v1)), (2, .ref (za Z v2)), (3, .ref (za Z v3)), (4, .ref (za Z v4)), (5, .int v5), (6, .int v6), (10, .int v10)]) (dk kL_best 51 rfl) (by decide) rfl ?_
          obtain ⟨x11, ex11, h⟩ := lt_inv h
          refine g_iinc C (i := 10) (v := x11) (lv' := [(10, .int x11), (9, .int x9), (8, .int x7), (7, .int v10), (12, .int x9), (11, .int x7), (0, .ref (za Z v0)), (1, .ref (za Z v1)), (2, .ref (za Z v2)), (3, .ref (za Z v3)), (4, .ref (za Z v4)), (5, .int v5), (6, .int v6)]) 12 (dk kL_best 52 rfl) rfl (by rw [ex11]; rfl) (by decide) rfl ?_
          refine g_goto C (tgt := 13) (dk kL_best 53 rfl) (by decide) ?_
          exact g_sub [6, 7, 8, 9, 10, 11, 12, 3, 2, 1, 0] rfl (g_widen (by omega) (by omega) (ih (by omega) v10 x7 x9 x11 y h he))
        · replace h := ite_f h c10
          refine g_iload C (i := 11) 1 rfl (dk kL_best 37 rfl) ?_
          refine g_iload C (i := 8) 10 rfl (dk kL_best 38 rfl) ?_
          refine g_icmp_lt C (tgt := 89) (dk kL_best 39 rfl) (by decide) (fun c12 => ?_) (fun c12 => ?_)
          · replace h := ite_t h c12
            refine g_iload C (i := 10) 12 rfl (dk kL_best 46 rfl) ?_
            refine g_istore C (i := 7) (lv' := [(7, .int v10), (12, .int x9), (11, .int x7), (0, .ref (za Z v0)), (1, .ref (za Z v1)), (2, .ref (za Z v2)), (3, .ref (za Z v3)), (4, .ref (za Z v4)), (5, .int v5), (6, .int v6), (8, .int v8), (9, .int v9), (10, .int v10)]) (dk kL_best 47 rfl) (by decide) rfl ?_
            refine g_iload C (i := 11) 2 rfl (dk kL_best 48 rfl) ?_
            refine g_istore C (i := 8) (lv' := [(8, .int x7), (7, .int v10), (12, .int x9), (11, .int x7), (0, .ref (za Z v0)), (1, .ref (za Z v1)), (2, .ref (za Z v2)), (3, .ref (za Z v3)), (4, .ref (za Z v4)), (5, .int v5), (6, .int v6), (9, .int v9), (10, .int v10)]) (dk kL_best 49 rfl) (by decide) rfl ?_
            refine g_iload C (i := 12) 2 rfl (dk kL_best 50 rfl) ?_
            refine g_istore C (i := 9) (lv' := [(9, .int x9), (8, .int x7), (7, .int v10), (12, .int x9), (11, .int x7), (0, .ref (za Z v0)), (1, .ref (za Z v1)), (2, .ref (za Z v2)), (3, .ref (za Z v3)), (4, .ref (za Z v4)), (5, .int v5), (6, .int v6), (10, .int v10)]) (dk kL_best 51 rfl) (by decide) rfl ?_
            obtain ⟨x13, ex13, h⟩ := lt_inv h
            refine g_iinc C (i := 10) (v := x13) (lv' := [(10, .int x13), (9, .int x9), (8, .int x7), (7, .int v10), (12, .int x9), (11, .int x7), (0, .ref (za Z v0)), (1, .ref (za Z v1)), (2, .ref (za Z v2)), (3, .ref (za Z v3)), (4, .ref (za Z v4)), (5, .int v5), (6, .int v6)]) 12 (dk kL_best 52 rfl) rfl (by rw [ex13]; rfl) (by decide) rfl ?_
            refine g_goto C (tgt := 13) (dk kL_best 53 rfl) (by decide) ?_
            exact g_sub [6, 7, 8, 9, 10, 11, 12, 3, 2, 1, 0] rfl (g_widen (by omega) (by omega) (ih (by omega) v10 x7 x9 x13 y h he))
          · replace h := ite_f h c12
            refine g_iload C (i := 11) 1 rfl (dk kL_best 40 rfl) ?_
            refine g_iload C (i := 8) 10 rfl (dk kL_best 41 rfl) ?_
            refine g_icmp_ne C (tgt := 101) (dk kL_best 42 rfl) (by decide) (fun c14 => ?_) (fun c14 => ?_)
            · replace h := ite_f h c14
              obtain ⟨x15, ex15, h⟩ := lt_inv h
              refine g_iinc C (i := 10) (v := x15) (lv' := [(10, .int x15), (12, .int x9), (11, .int x7), (0, .ref (za Z v0)), (1, .ref (za Z v1)), (2, .ref (za Z v2)), (3, .ref (za Z v3)), (4, .ref (za Z v4)), (5, .int v5), (6, .int v6), (7, .int v7), (8, .int v8), (9, .int v9)]) 12 (dk kL_best 52 rfl) rfl (by rw [ex15]; rfl) (by decide) rfl ?_
              refine g_goto C (tgt := 13) (dk kL_best 53 rfl) (by decide) ?_
              exact g_sub [3, 4, 5, 6, 7, 8, 9, 10, 11, 12, 0] rfl (g_widen (by omega) (by omega) (ih (by omega) v7 v8 v9 x15 y h he))
            · replace h := ite_t h c14
              refine g_iload C (i := 12) 0 rfl (dk kL_best 43 rfl) ?_
              refine g_iload C (i := 9) 11 rfl (dk kL_best 44 rfl) ?_
              refine g_icmp_gt C (tgt := 101) (dk kL_best 45 rfl) (by decide) (fun c16 => ?_) (fun c16 => ?_)
              · replace h := ite_t h c16
                obtain ⟨x17, ex17, h⟩ := lt_inv h
                refine g_iinc C (i := 10) (v := x17) (lv' := [(10, .int x17), (12, .int x9), (11, .int x7), (0, .ref (za Z v0)), (1, .ref (za Z v1)), (2, .ref (za Z v2)), (3, .ref (za Z v3)), (4, .ref (za Z v4)), (5, .int v5), (6, .int v6), (7, .int v7), (8, .int v8), (9, .int v9)]) 12 (dk kL_best 52 rfl) rfl (by rw [ex17]; rfl) (by decide) rfl ?_
                refine g_goto C (tgt := 13) (dk kL_best 53 rfl) (by decide) ?_
                exact g_sub [3, 4, 5, 6, 7, 8, 9, 10, 11, 12, 0] rfl (g_widen (by omega) (by omega) (ih (by omega) v7 v8 v9 x17 y h he))
              · replace h := ite_f h c16
                refine g_iload C (i := 10) 12 rfl (dk kL_best 46 rfl) ?_
                refine g_istore C (i := 7) (lv' := [(7, .int v10), (12, .int x9), (11, .int x7), (0, .ref (za Z v0)), (1, .ref (za Z v1)), (2, .ref (za Z v2)), (3, .ref (za Z v3)), (4, .ref (za Z v4)), (5, .int v5), (6, .int v6), (8, .int v8), (9, .int v9), (10, .int v10)]) (dk kL_best 47 rfl) (by decide) rfl ?_
                refine g_iload C (i := 11) 2 rfl (dk kL_best 48 rfl) ?_
                refine g_istore C (i := 8) (lv' := [(8, .int x7), (7, .int v10), (12, .int x9), (11, .int x7), (0, .ref (za Z v0)), (1, .ref (za Z v1)), (2, .ref (za Z v2)), (3, .ref (za Z v3)), (4, .ref (za Z v4)), (5, .int v5), (6, .int v6), (9, .int v9), (10, .int v10)]) (dk kL_best 49 rfl) (by decide) rfl ?_
                refine g_iload C (i := 12) 2 rfl (dk kL_best 50 rfl) ?_
                refine g_istore C (i := 9) (lv' := [(9, .int x9), (8, .int x7), (7, .int v10), (12, .int x9), (11, .int x7), (0, .ref (za Z v0)), (1, .ref (za Z v1)), (2, .ref (za Z v2)), (3, .ref (za Z v3)), (4, .ref (za Z v4)), (5, .int v5), (6, .int v6), (10, .int v10)]) (dk kL_best 51 rfl) (by decide) rfl ?_
                obtain ⟨x18, ex18, h⟩ := lt_inv h
                refine g_iinc C (i := 10) (v := x18) (lv' := [(10, .int x18), (9, .int x9), (8, .int x7), (7, .int v10), (12, .int x9), (11, .int x7), (0, .ref (za Z v0)), (1, .ref (za Z v1)), (2, .ref (za Z v2)), (3, .ref (za Z v3)), (4, .ref (za Z v4)), (5, .int v5), (6, .int v6)]) 12 (dk kL_best 52 rfl) rfl (by rw [ex18]; rfl) (by decide) rfl ?_
                refine g_goto C (tgt := 13) (dk kL_best 53 rfl) (by decide) ?_
                exact g_sub [6, 7, 8, 9, 10, 11, 12, 3, 2, 1, 0] rfl (g_widen (by omega) (by omega) (ih (by omega) v10 x7 x9 x18 y h he))
set_option maxRecDepth 100000 in
set_option maxHeartbeats 4000000 in
theorem t_L_best {l : Launch} {Z : ZZ} {X : XX} (μ : Mm) (a0 : Nat) (a1 : Nat) (a2 : Nat) (a3 : Nat) (a4 : Nat) (a5 : Int32) (a6 : Int32) (r : Int32) (k0 : (zk Z a0).1 = 8) (k1 : (zk Z a1).1 = 8) (k2 : (zk Z a2).1 = 8) (k3 : (zk Z a3).1 = 8) (k4 : (zk Z a4).1 = 8) (h : f_L_best (zk Z) μ a0 a1 a2 a3 a4 a5 a6 = some r) (C : Cx l Z false X cL_best RL 13 (some .int)) (E : Ex Z X 3 100 2150 (some (.int r)) Z μ) : G Z X 13 0 0 0 [(0, .ref (za Z a0)), (1, .ref (za Z a1)), (2, .ref (za Z a2)), (3, .ref (za Z a3)), (4, .ref (za Z a4)), (5, .int a5), (6, .int a6)] [] μ := by
  unfold f_L_best at h
  refine g_iconst C (v := (-1)) (by decide) (dk kL_best 0 rfl) ?_
  refine g_istore C (i := 7) (lv' := [(7, .int (-1)), (0, .ref (za Z a0)), (1, .ref (za Z a1)), (2, .ref (za Z a2)), (3, .ref (za Z a3)), (4, .ref (za Z a4)), (5, .int a5), (6, .int a6)]) (dk kL_best 1 rfl) (by decide) rfl ?_
  refine g_iconst C (v := 0) (by decide) (dk kL_best 2 rfl) ?_
  refine g_istore C (i := 8) (lv' := [(8, .int 0), (7, .int (-1)), (0, .ref (za Z a0)), (1, .ref (za Z a1)), (2, .ref (za Z a2)), (3, .ref (za Z a3)), (4, .ref (za Z a4)), (5, .int a5), (6, .int a6)]) (dk kL_best 3 rfl) (by decide) rfl ?_
  refine g_iconst C (v := 0) (by decide) (dk kL_best 4 rfl) ?_
  refine g_istore C (i := 9) (lv' := [(9, .int 0), (8, .int 0), (7, .int (-1)), (0, .ref (za Z a0)), (1, .ref (za Z a1)), (2, .ref (za Z a2)), (3, .ref (za Z a3)), (4, .ref (za Z a4)), (5, .int a5), (6, .int a6)]) (dk kL_best 5 rfl) (by decide) rfl ?_
  refine g_bipush C (v := 23) (by decide) (dk kL_best 6 rfl) ?_
  refine g_istore C (i := 10) (lv' := [(10, .int 23), (9, .int 0), (8, .int 0), (7, .int (-1)), (0, .ref (za Z a0)), (1, .ref (za Z a1)), (2, .ref (za Z a2)), (3, .ref (za Z a3)), (4, .ref (za Z a4)), (5, .int a5), (6, .int a6)]) (dk kL_best 7 rfl) (by decide) rfl ?_
  obtain ⟨q19, eq19, h⟩ := bd_inv h
  refine g_sub [4, 5, 6, 7, 8, 9, 10, 3, 2, 1, 0] (lv' := [(0, .ref (za Z a0)), (1, .ref (za Z a1)), (2, .ref (za Z a2)), (3, .ref (za Z a3)), (4, .ref (za Z a4)), (5, .int a5), (6, .int a6), (7, .int (-1)), (8, .int 0), (9, .int 0), (10, .int 23)]) rfl ?_
  refine gl_L_best_13 a0 a1 a2 a3 a4 a5 a6 k0 k1 k2 k3 k4 μ C E.2 25 (Nat.le_refl _) (-1) 0 0 23 _ eq19 ?_
  obtain ⟨x20, ex20, h⟩ := lt_inv h
  rw [← ex20]
  refine g_iload C (i := 7) 0 rfl (dk kL_best 54 rfl) ?_
  have h9 := Option.some.inj h
  subst h9
  exact g_iret C E rfl rfl (by decide) (by decide) (dk kL_best 55 rfl)
theorem ct_L_best {l : Launch} {Z : ZZ} {μ : Mm} {a0 : Nat} {a1 : Nat} {a2 : Nat} {a3 : Nat} {a4 : Nat} {a5 : Int32} {a6 : Int32} {r : Int32} (k0 : (zk Z a0).1 = 8) (k1 : (zk Z a1).1 = 8) (k2 : (zk Z a2).1 = 8) (k3 : (zk Z a3).1 = 8) (k4 : (zk Z a4).1 = 8) (h : f_L_best (zk Z) μ a0 a1 a2 a3 a4 a5 a6 = some r) : CtM l Z false yL_best cL_best 13 (some .int) 3 100 2150 [.ref (za Z a0), .ref (za Z a1), .ref (za Z a2), .ref (za Z a3), .ref (za Z a4), .int a5, .int a6] μ (some (.int r)) Z μ := ct_of rfl rfl (Nat.le_of_ble_eq_true rfl) (fun X C E => t_L_best μ a0 a1 a2 a3 a4 a5 a6 r k0 k1 k2 k3 k4 h C E)

def qL_lets_0 : List (Nat × Instr × Nat) := [(0, .aload_n 1, 1), (1, .bipush 9, 2), (3, .iaload, 1), (4, .ifCond .ne 31, 3), (7, .aload_n 0, 1), (8, .iconst 0, 1), (9, .invokestatic 90, 3), (12, .ldc 34, 2), (14, .if_icmp .ne 19, 3), (17, .aload_n 0, 1), (18, .iconst 0, 1), (19, .iconst 0, 1), (20, .iconst 1, 1), (21, .invokestatic 94, 3), (24, .ldc 34, 2), (26, .if_icmp .ne 7, 3), (29, .iconst 1, 1), (30, .goto 4, 3), (33, .iconst 0, 1), (34, .ireturn, 1), (35, .iload_n 3, 1), (36, .aload_n 1, 1), (37, .bipush 9, 2), (39, .iaload, 1), (40, .irem, 1), (41, .istore 5, 2), (43, .iload 4, 2), (45, .ifCond .eq 86, 3), (48, .aload_n 2, 1), (49, .bipush 6, 2), (51, .iload 5, 2), (53, .imul, 1), (54, .iaload, 1), (55, .ifCond .ge 20, 3), (58, .aload_n 0, 1), (59, .iload 5, 2), (61, .invokestatic 90, 3), (64, .ldc 27, 2), (66, .if_icmp .ne 7, 3), (69, .iconst 1, 1), (70, .goto 4, 3), (73, .iconst 0, 1), (74, .ireturn, 1), (75, .aload_n 2, 1), (76, .bipush 6, 2), (78, .iload 5, 2), (80, .imul, 1), (81, .iconst 1, 1), (82, .iadd, 1), (83, .iaload, 1), (84, .aload_n 2, 1), (85, .bipush 6, 2), (87, .iload 5, 2), (89, .imul, 1), (90, .iaload, 1), (91, .isub, 1), (92, .iconst 1, 1), (93, .iadd, 1), (94, .istore 6, 2), (96, .aload_n 2, 1)]
theorem kL_lets_0 : ∀ q ∈ qL_lets_0, decode cL_lets q.1 = .ok q.2 := by decide +kernel
def qL_lets_1 : List (Nat × Instr × Nat) := [(97, .bipush 6, 2), (99, .iload 5, 2), (101, .imul, 1), (102, .iconst (-1), 1), (103, .iastore, 1), (104, .aload_n 2, 1), (105, .bipush 6, 2), (107, .iload 5, 2), (109, .imul, 1), (110, .iconst 1, 1), (111, .iadd, 1), (112, .iconst (-1), 1), (113, .iastore, 1), (114, .aload_n 0, 1), (115, .iload 5, 2), (117, .invokestatic 90, 3), (120, .iload 6, 2), (122, .if_icmp .ne 7, 3), (125, .iconst 1, 1), (126, .goto 4, 3), (129, .iconst 0, 1), (130, .ireturn, 1), (131, .iload_n 3, 1), (132, .bipush 6, 2), (134, .idiv, 1), (135, .aload_n 1, 1), (136, .iconst 0, 1), (137, .iaload, 1), (138, .irem, 1), (139, .istore 6, 2), (141, .iload 6, 2), (143, .iload_n 3, 1), (144, .sipush 144, 3), (147, .idiv, 1), (148, .iconst 5, 1), (149, .irem, 1), (150, .iadd, 1), (151, .istore 7, 2), (153, .iload 7, 2), (155, .aload_n 1, 1), (156, .iconst 0, 1), (157, .iaload, 1), (158, .if_icmp .lt 46, 3), (161, .aload_n 0, 1), (162, .iload 5, 2), (164, .iload 6, 2), (166, .iload 7, 2), (168, .invokestatic 94, 3), (171, .ldc 34, 2), (173, .if_icmp .ne 29, 3), (176, .iload 6, 2), (178, .ifCond .eq 20, 3), (181, .aload_n 0, 1), (182, .iload 5, 2), (184, .iload 6, 2), (186, .iload 6, 2), (188, .iconst 1, 1), (189, .isub, 1), (190, .invokestatic 94, 3), (193, .ldc 17, 2)]
theorem kL_lets_1 : ∀ q ∈ qL_lets_1, decode cL_lets q.1 = .ok q.2 := by decide +kernel
def qL_lets_2 : List (Nat × Instr × Nat) := [(195, .if_icmp .ne 7, 3), (198, .iconst 1, 1), (199, .goto 4, 3), (202, .iconst 0, 1), (203, .ireturn, 1), (204, .iload 6, 2), (206, .istore 8, 2), (208, .iload 8, 2), (210, .iload 7, 2), (212, .if_icmp .gt 51, 3), (215, .aload_n 1, 1), (216, .aload_n 2, 1), (217, .iload 8, 2), (219, .invokestatic 57, 3), (222, .istore 9, 2), (224, .iload 9, 2), (226, .ifCond .lt 31, 3), (229, .iload 9, 2), (231, .iload 5, 2), (233, .if_icmp .eq 24, 3), (236, .aload_n 0, 1), (237, .iload 5, 2), (239, .iload 6, 2), (241, .iload 7, 2), (243, .invokestatic 94, 3), (246, .ldc 27, 2), (248, .if_icmp .ne 7, 3), (251, .iconst 1, 1), (252, .goto 4, 3), (255, .iconst 0, 1), (256, .ireturn, 1), (257, .iinc 8 1, 3), (260, .goto (-52), 3), (263, .aload_n 2, 1), (264, .bipush 6, 2), (266, .iload 5, 2), (268, .imul, 1), (269, .iload 6, 2), (271, .iastore, 1), (272, .aload_n 2, 1), (273, .bipush 6, 2), (275, .iload 5, 2), (277, .imul, 1), (278, .iconst 1, 1), (279, .iadd, 1), (280, .iload 7, 2), (282, .iastore, 1), (283, .aload_n 0, 1), (284, .iload 5, 2), (286, .iload 6, 2), (288, .iload 7, 2), (290, .invokestatic 94, 3), (293, .aload_n 1, 1), (294, .aload_n 2, 1), (295, .invokestatic 98, 3), (298, .if_icmp .ne 7, 3), (301, .iconst 1, 1), (302, .goto 4, 3), (305, .iconst 0, 1), (306, .ireturn, 1)]
theorem kL_lets_2 : ∀ q ∈ qL_lets_2, decode cL_lets q.1 = .ok q.2 := by decide +kernel
def qL_lets : List (Nat × Instr × Nat) := qL_lets_0 ++ (qL_lets_1 ++ (qL_lets_2))
theorem kL_lets : ∀ q ∈ qL_lets, decode cL_lets q.1 = .ok q.2 := List.forall_mem_append.mpr ⟨kL_lets_0, List.forall_mem_append.mpr ⟨kL_lets_1, kL_lets_2⟩⟩
def f_L_lets_l208 (K : Nat → Nat × Nat) (μ : Mm) (v0 : Nat) (v1 : Nat) (v2 : Nat) (v5 : Int32) (v6 : Int32) (v7 : Int32) : Nat → Int32 → Option ((Int32 × Mm) ⊕ (Unit))
  | 0, _ => none
  | n + 1, v8 => if v7 < v8 then (some (.inr ())) else (bd (f_L_renter K μ v1 v2 v8) fun x15 => if x15 < 0 then (lt1 (α := Int32) (v8 + 1) fun x17 => f_L_lets_l208 K μ v0 v1 v2 v5 v6 v7 n x17) else (if x15 = v5 then (lt1 (α := Int32) (v8 + 1) fun x19 => f_L_lets_l208 K μ v0 v1 v2 v5 v6 v7 n x19) else (bd (fx_X7_rent K μ v0 v5 v6 v7) fun q20 => gd (q20.1 = 3) <| lt1 q20.2 fun μ22 => some (.inl (1, μ22)))))
def f_L_lets (K : Nat → Nat × Nat) (μ : Mm) (a0 : Nat) (a1 : Nat) (a2 : Nat) (a3 : Int32) (a4 : Int32) : Option (Int32 × Mm) :=
  gd (inb 9 (K a1).2) <| if (μ.1 a1 (ix 9)) = 0 then (bd (fx_X7_endRent K μ a0 0) fun q62 => gd (q62.1 = 1) <| lt1 q62.2 fun μ64 => bd (fx_X7_rent K μ64 a0 0 0 1) fun q66 => gd (q66.1 = 1) <| lt1 q66.2 fun μ68 => some (1, μ68)) else (gd (inb 9 (K a1).2) <| gd (¬ (μ.1 a1 (ix 9)) = 0) <| lt1 (α := Int32) (a3 - a3 / (μ.1 a1 (ix 9)) * (μ.1 a1 (ix 9))) fun x5 => if a4 = 0 then (gd (inb 0 (K a1).2) <| gd (¬ (μ.1 a1 (ix 0)) = 0) <| lt1 (α := Int32) ((a3 / 6) - (a3 / 6) / (μ.1 a1 (ix 0)) * (μ.1 a1 (ix 0))) fun x9 => lt1 (α := Int32) (x9 + ((a3 / 144) - (a3 / 144) / 5 * 5)) fun x10 => gd (inb 0 (K a1).2) <| if x10 < (μ.1 a1 (ix 0)) then (bd (f_L_lets_l208 K μ a0 a1 a2 x5 x9 x10 FU x9) fun q24 => (match q24 with | .inl r => some r | .inr q25 => gd (inb (6 * x5) (K a2).2) <| lt1 (sI μ a2 (ix (6 * x5)) x9) fun μ27 => gd (inb ((6 * x5) + 1) (K a2).2) <| lt1 (sI μ27 a2 (ix ((6 * x5) + 1)) x10) fun μ29 => bd (f_L_rents K μ29 a0 x5 x9 x10) fun q30 => lt1 q30.1 fun x32 => lt1 q30.2 fun μ31 => bd (f_L_rented K μ31 a1 a2) fun x34 => gd (x32 = x34) <| some (1, μ31))) else (bd (fx_X7_rent K μ a0 x5 x9 x10) fun q36 => gd (q36.1 = 1) <| lt1 q36.2 fun μ38 => if x9 = 0 then (some (1, μ38)) else (bd (fx_X7_rent K μ38 a0 x5 x9 (x9 - 1)) fun q41 => gd (q41.1 = 2) <| lt1 q41.2 fun μ43 => some (1, μ43)))) else (gd (inb (6 * x5) (K a2).2) <| if 0 ≤ (μ.1 a2 (ix (6 * x5))) then (gd (inb ((6 * x5) + 1) (K a2).2) <| gd (inb (6 * x5) (K a2).2) <| lt1 (α := Int32) (((μ.1 a2 (ix ((6 * x5) + 1))) - (μ.1 a2 (ix (6 * x5)))) + 1) fun x49 => gd (inb (6 * x5) (K a2).2) <| lt1 (sI μ a2 (ix (6 * x5)) (-1)) fun μ51 => gd (inb ((6 * x5) + 1) (K a2).2) <| lt1 (sI μ51 a2 (ix ((6 * x5) + 1)) (-1)) fun μ53 => bd (f_L_ends K μ53 a0 x5) fun q54 => lt1 q54.1 fun x56 => lt1 q54.2 fun μ55 => gd (x56 = x49) <| some (1, μ55)) else (bd (fx_X7_endRent K μ a0 x5) fun q58 => gd (q58.1 = 3) <| lt1 q58.2 fun μ60 => some (1, μ60))))
set_option maxRecDepth 100000 in
set_option maxHeartbeats 4000000 in
theorem gl_L_lets_208 {l : Launch} {Z : ZZ} {X : XX} (v0 : Nat) (v1 : Nat) (v2 : Nat) (v5 : Int32) (v6 : Int32) (v7 : Int32) (k0 : (zk Z v0).1 = 5) (k1 : (zk Z v1).1 = 8) (k2 : (zk Z v2).1 = 8) (μ : Mm) (C : Cx l Z false X cL_lets RL 10 (some .boolean)) (hl : l.stackTraces = false) (E : xR X = rmm 9 2 12) : ∀ (n : Nat) (v8 : Int32) (y : (Int32 × Mm) ⊕ (Unit)), f_L_lets_l208 (zk Z) μ v0 v1 v2 v5 v6 v7 n v8 = some y → (∀ r, y = .inl r → Ex Z X 9 2 12 (some (.int r.1)) Z r.2) → (∀ y9, y = .inr y9 → G Z X 10 0 0 263 [(0, .ref (za Z v0)), (1, .ref (za Z v1)), (2, .ref (za Z v2)), (5, .int v5), (6, .int v6), (7, .int v7)] [] (μ)) → G Z X 10 0 0 208 [(0, .ref (za Z v0)), (1, .ref (za Z v1)), (2, .ref (za Z v2)), (5, .int v5), (6, .int v6), (7, .int v7), (8, .int v8)] [] μ := by
  intro n
  induction n with
  | zero => intro v8 y h hr he; unfold f_L_lets_l208 at h; cases h
  | succ n ih =>
    intro v8 y h hr he
    unfold f_L_lets_l208 at h
    refine g_iload C (i := 8) 6 rfl (dk kL_lets 127 rfl) ?_
    refine g_iload C (i := 7) 5 rfl (dk kL_lets 128 rfl) ?_
    refine g_icmp_gt C (tgt := 263) (dk kL_lets 129 rfl) (by decide) (fun c13 => ?_) (fun c13 => ?_)
    · replace h := ite_t h c13
      cases h
      exact g_sub [0, 1, 2, 3, 4, 5] rfl (he _ rfl)
    · replace h := ite_f h c13
      refine g_aload_n C (i := 1) 1 rfl rfl (dk kL_lets 130 rfl) ?_
      refine g_aload_n C (i := 2) 2 rfl rfl (dk kL_lets 131 rfl) ?_
      refine g_iload C (i := 8) 6 rfl (dk kL_lets 132 rfl) ?_
      obtain ⟨x15, eq14, h⟩ := bd_inv h
      refine g_callS C E (rest := []) 3 (ct_L_renter k1 k2 eq14) wd_3_66 mm_L_renter ⟨by decide, by decide, by decide⟩ rfl (by decide) rfl (Nat.le_of_ble_eq_true rfl) (by decide) (dk kL_lets 133 rfl) ?_
      refine g_istore C (i := 9) (lv' := [(9, .int x15), (0, .ref (za Z v0)), (1, .ref (za Z v1)), (2, .ref (za Z v2)), (5, .int v5), (6, .int v6), (7, .int v7), (8, .int v8)]) (dk kL_lets 134 rfl) (by decide) rfl ?_
      refine g_iload C (i := 9) 0 rfl (dk kL_lets 135 rfl) ?_
      refine g_if_lt C (tgt := 257) (dk kL_lets 136 rfl) (by decide) (fun c16 => ?_) (fun c16 => ?_)
      · replace h := ite_t h c16
        obtain ⟨x17, ex17, h⟩ := lt_inv h
        refine g_iinc C (i := 8) (v := x17) (lv' := [(8, .int x17), (9, .int x15), (0, .ref (za Z v0)), (1, .ref (za Z v1)), (2, .ref (za Z v2)), (5, .int v5), (6, .int v6), (7, .int v7)]) 7 (dk kL_lets 151 rfl) rfl (by rw [ex17]; rfl) (by decide) rfl ?_
        refine g_goto C (tgt := 208) (dk kL_lets 152 rfl) (by decide) ?_
        exact g_sub [2, 3, 4, 5, 6, 7, 0] rfl (ih x17 y h hr he)
      · replace h := ite_f h c16
        refine g_iload C (i := 9) 0 rfl (dk kL_lets 137 rfl) ?_
        refine g_iload C (i := 5) 4 rfl (dk kL_lets 138 rfl) ?_
        refine g_icmp_eq C (tgt := 257) (dk kL_lets 139 rfl) (by decide) (fun c18 => ?_) (fun c18 => ?_)
        · replace h := ite_t h c18
          obtain ⟨x19, ex19, h⟩ := lt_inv h
          refine g_iinc C (i := 8) (v := x19) (lv' := [(8, .int x19), (9, .int x15), (0, .ref (za Z v0)), (1, .ref (za Z v1)), (2, .ref (za Z v2)), (5, .int v5), (6, .int v6), (7, .int v7)]) 7 (dk kL_lets 151 rfl) rfl (by rw [ex19]; rfl) (by decide) rfl ?_
          refine g_goto C (tgt := 208) (dk kL_lets 152 rfl) (by decide) ?_
          exact g_sub [2, 3, 4, 5, 6, 7, 0] rfl (ih x19 y h hr he)
        · replace h := ite_f h c18
          refine g_aload_n C (i := 0) 1 rfl rfl (dk kL_lets 140 rfl) ?_
          refine g_iload C (i := 5) 4 rfl (dk kL_lets 141 rfl) ?_
          refine g_iload C (i := 6) 5 rfl (dk kL_lets 142 rfl) ?_
          refine g_iload C (i := 7) 6 rfl (dk kL_lets 143 rfl) ?_
          obtain ⟨q20, eq20, h⟩ := bd_inv h
          obtain ⟨c21, h⟩ := gd_inv h
          obtain ⟨μ22, eμ22, h⟩ := lt_inv h
          rw [show q20 = (3, μ22) from by rw [← c21, eμ22]] at eq20
          refine g_callSW C E (rest := []) 4 (ctx3_L_rents k0 hl eq20) wd_3_39 mw_L_rents ⟨by decide, by decide, by decide⟩ rfl (by decide) rfl (Nat.le_of_ble_eq_true rfl) (by decide) (dk kL_lets 144 rfl) ?_
          refine g_ldc C (v := (-2000003)) (C.w wd_2_169) (dk kL_lets 145 rfl) ?_
          refine g_icmp_ne C (tgt := 255) (dk kL_lets 146 rfl) (by decide) (fun c => absurd c (by decide)) (fun c23 => ?_)
          refine g_iconst C (v := 1) (by decide) (dk kL_lets 147 rfl) ?_
          refine g_goto C (tgt := 256) (dk kL_lets 148 rfl) (by decide) ?_
          cases h
          have E := hr _ rfl
          exact g_iret C E rfl rfl (by decide) (by decide) (dk kL_lets 150 rfl)
set_option maxRecDepth 100000 in
set_option maxHeartbeats 4000000 in
theorem t_L_lets {l : Launch} {Z : ZZ} {X : XX} (μ : Mm) (a0 : Nat) (a1 : Nat) (a2 : Nat) (a3 : Int32) (a4 : Int32) (r : Int32) (μ' : Mm) (k0 : (zk Z a0).1 = 5) (k1 : (zk Z a1).1 = 8) (k2 : (zk Z a2).1 = 8) (h : f_L_lets (zk Z) μ a0 a1 a2 a3 a4 = some (r, μ')) (C : Cx l Z false X cL_lets RL 10 (some .boolean)) (hl : l.stackTraces = false) (E : Ex Z X 9 2 12 (some (.int r)) Z μ') : G Z X 10 0 0 0 [(0, .ref (za Z a0)), (1, .ref (za Z a1)), (2, .ref (za Z a2)), (3, .int a3), (4, .int a4)] [] μ := by
  unfold f_L_lets at h
  refine g_aload_n C (i := 1) 1 rfl rfl (dk kL_lets 0 rfl) ?_
  refine g_bipush C (v := 9) (by decide) (dk kL_lets 1 rfl) ?_
  obtain ⟨c1, h⟩ := gd_inv h
  refine g_iald C k1 c1 (dk kL_lets 2 rfl) ?_
  refine g_if_ne C (tgt := 35) (dk kL_lets 3 rfl) (by decide) (fun c2 => ?_) (fun c2 => ?_)
  · replace h := ite_f h c2
    refine g_iload_n C (i := 3) 3 rfl rfl (dk kL_lets 20 rfl) ?_
    refine g_aload_n C (i := 1) 1 rfl rfl (dk kL_lets 21 rfl) ?_
    refine g_bipush C (v := 9) (by decide) (dk kL_lets 22 rfl) ?_
    obtain ⟨c3, h⟩ := gd_inv h
    refine g_iald C k1 c3 (dk kL_lets 23 rfl) ?_
    obtain ⟨c4, h⟩ := gd_inv h
    refine g_irem C c4 (dk kL_lets 24 rfl) ?_
    obtain ⟨x5, ex5, h⟩ := lt_inv h
    refine g_nmi ex5 ?_
    refine g_istore C (i := 5) (lv' := [(5, .int x5), (0, .ref (za Z a0)), (1, .ref (za Z a1)), (2, .ref (za Z a2)), (3, .int a3), (4, .int a4)]) (dk kL_lets 25 rfl) (by decide) rfl ?_
    refine g_iload C (i := 4) 5 rfl (dk kL_lets 26 rfl) ?_
    refine g_if_eq C (tgt := 131) (dk kL_lets 27 rfl) (by decide) (fun c6 => ?_) (fun c6 => ?_)
    · replace h := ite_t h c6
      refine g_iload_n C (i := 3) 4 rfl rfl (dk kL_lets 82 rfl) ?_
      refine g_bipush C (v := 6) (by decide) (dk kL_lets 83 rfl) ?_
      refine g_idiv C (by decide) (dk kL_lets 84 rfl) ?_
      refine g_aload_n C (i := 1) 2 rfl rfl (dk kL_lets 85 rfl) ?_
      refine g_iconst C (v := 0) (by decide) (dk kL_lets 86 rfl) ?_
      obtain ⟨c7, h⟩ := gd_inv h
      refine g_iald C k1 c7 (dk kL_lets 87 rfl) ?_
      obtain ⟨c8, h⟩ := gd_inv h
      refine g_irem C c8 (dk kL_lets 88 rfl) ?_
      obtain ⟨x9, ex9, h⟩ := lt_inv h
      refine g_nmi ex9 ?_
      refine g_istore C (i := 6) (lv' := [(6, .int x9), (5, .int x5), (0, .ref (za Z a0)), (1, .ref (za Z a1)), (2, .ref (za Z a2)), (3, .int a3), (4, .int a4)]) (dk kL_lets 89 rfl) (by decide) rfl ?_
      refine g_iload C (i := 6) 0 rfl (dk kL_lets 90 rfl) ?_
      refine g_iload_n C (i := 3) 5 rfl rfl (dk kL_lets 91 rfl) ?_
      refine g_sipush C (v := 144) (by decide) (dk kL_lets 92 rfl) ?_
      refine g_idiv C (by decide) (dk kL_lets 93 rfl) ?_
      refine g_iconst C (v := 5) (by decide) (dk kL_lets 94 rfl) ?_
      refine g_irem C (by decide) (dk kL_lets 95 rfl) ?_
      refine g_iadd C (dk kL_lets 96 rfl) ?_
      obtain ⟨x10, ex10, h⟩ := lt_inv h
      refine g_nmi ex10 ?_
      refine g_istore C (i := 7) (lv' := [(7, .int x10), (6, .int x9), (5, .int x5), (0, .ref (za Z a0)), (1, .ref (za Z a1)), (2, .ref (za Z a2)), (3, .int a3), (4, .int a4)]) (dk kL_lets 97 rfl) (by decide) rfl ?_
      refine g_iload C (i := 7) 0 rfl (dk kL_lets 98 rfl) ?_
      refine g_aload_n C (i := 1) 4 rfl rfl (dk kL_lets 99 rfl) ?_
      refine g_iconst C (v := 0) (by decide) (dk kL_lets 100 rfl) ?_
      obtain ⟨c11, h⟩ := gd_inv h
      refine g_iald C k1 c11 (dk kL_lets 101 rfl) ?_
      refine g_icmp_lt C (tgt := 204) (dk kL_lets 102 rfl) (by decide) (fun c12 => ?_) (fun c12 => ?_)
      · replace h := ite_t h c12
        refine g_iload C (i := 6) 1 rfl (dk kL_lets 125 rfl) ?_
        refine g_istore C (i := 8) (lv' := [(8, .int x9), (7, .int x10), (6, .int x9), (5, .int x5), (0, .ref (za Z a0)), (1, .ref (za Z a1)), (2, .ref (za Z a2)), (3, .int a3), (4, .int a4)]) (dk kL_lets 126 rfl) (by decide) rfl ?_
        obtain ⟨q24, eq24, h⟩ := bd_inv h
        refine g_sub [4, 5, 6, 3, 2, 1, 0] (lv' := [(0, .ref (za Z a0)), (1, .ref (za Z a1)), (2, .ref (za Z a2)), (5, .int x5), (6, .int x9), (7, .int x10), (8, .int x9)]) rfl ?_
        cases q24 with
        | inl r =>
          cases h
          exact gl_L_lets_208 a0 a1 a2 x5 x9 x10 k0 k1 k2 μ C hl E.2 FU x9 _ eq24 (fun r hr9 => by cases hr9; exact E) (fun y hy9 => by cases hy9)
        | inr q25 =>
          refine gl_L_lets_208 a0 a1 a2 x5 x9 x10 k0 k1 k2 μ C hl E.2 FU x9 _ eq24 (fun r hr9 => by cases hr9) (fun y hy9 => ?_)
          cases hy9
          refine g_aload_n C (i := 2) 2 rfl rfl (dk kL_lets 153 rfl) ?_
          refine g_bipush C (v := 6) (by decide) (dk kL_lets 154 rfl) ?_
          refine g_iload C (i := 5) 3 rfl (dk kL_lets 155 rfl) ?_
          refine g_imul C (dk kL_lets 156 rfl) ?_
          refine g_iload C (i := 6) 4 rfl (dk kL_lets 157 rfl) ?_
          obtain ⟨c26, h⟩ := gd_inv h
          obtain ⟨μ27, eμ27, h⟩ := lt_inv h
          refine g_iast C k2 c26 eμ27 (dk kL_lets 158 rfl) ?_
          refine g_aload_n C (i := 2) 2 rfl rfl (dk kL_lets 159 rfl) ?_
          refine g_bipush C (v := 6) (by decide) (dk kL_lets 160 rfl) ?_
          refine g_iload C (i := 5) 3 rfl (dk kL_lets 161 rfl) ?_
          refine g_imul C (dk kL_lets 162 rfl) ?_
          refine g_iconst C (v := 1) (by decide) (dk kL_lets 163 rfl) ?_
          refine g_iadd C (dk kL_lets 164 rfl) ?_
          refine g_iload C (i := 7) 5 rfl (dk kL_lets 165 rfl) ?_
          obtain ⟨c28, h⟩ := gd_inv h
          obtain ⟨μ29, eμ29, h⟩ := lt_inv h
          refine g_iast C k2 c28 eμ29 (dk kL_lets 166 rfl) ?_
          refine g_aload_n C (i := 0) 0 rfl rfl (dk kL_lets 167 rfl) ?_
          refine g_iload C (i := 5) 3 rfl (dk kL_lets 168 rfl) ?_
          refine g_iload C (i := 6) 4 rfl (dk kL_lets 169 rfl) ?_
          refine g_iload C (i := 7) 5 rfl (dk kL_lets 170 rfl) ?_
          obtain ⟨q30, eq30, h⟩ := bd_inv h
          obtain ⟨x32, ex32, h⟩ := lt_inv h
          obtain ⟨μ31, eμ31, h⟩ := lt_inv h
          rw [show q30 = (x32, μ31) from by rw [ex32, eμ31]] at eq30
          refine g_callSW C E.2 (rest := []) 4 (ct_L_rents k0 eq30) wd_3_39 mw_L_rents ⟨by decide, by decide, by decide⟩ rfl (by decide) rfl (Nat.le_of_ble_eq_true rfl) (by decide) (dk kL_lets 171 rfl) ?_
          refine g_aload_n C (i := 1) 1 rfl rfl (dk kL_lets 172 rfl) ?_
          refine g_aload_n C (i := 2) 2 rfl rfl (dk kL_lets 173 rfl) ?_
          obtain ⟨x34, eq33, h⟩ := bd_inv h
          refine g_callS C E.2 (rest := [.int x32]) 2 (ct_L_rented k1 k2 eq33) wd_3_69 mm_L_rented ⟨by decide, by decide, by decide⟩ rfl (by decide) rfl (Nat.le_of_ble_eq_true rfl) (by decide) (dk kL_lets 174 rfl) ?_
          obtain ⟨c35, h⟩ := gd_inv h
          refine g_icmp_ne C (tgt := 305) (dk kL_lets 175 rfl) (by decide) (fun q => absurd c35 q) (fun _ => ?_)
          refine g_iconst C (v := 1) (by decide) (dk kL_lets 176 rfl) ?_
          refine g_goto C (tgt := 306) (dk kL_lets 177 rfl) (by decide) ?_
          obtain ⟨h8, h9⟩ := Prod.mk.inj (Option.some.inj h)
          subst h8
          subst h9
          exact g_iret C E rfl rfl (by decide) (by decide) (dk kL_lets 179 rfl)
      · replace h := ite_f h c12
        refine g_aload_n C (i := 0) 3 rfl rfl (dk kL_lets 103 rfl) ?_
        refine g_iload C (i := 5) 2 rfl (dk kL_lets 104 rfl) ?_
        refine g_iload C (i := 6) 1 rfl (dk kL_lets 105 rfl) ?_
        refine g_iload C (i := 7) 0 rfl (dk kL_lets 106 rfl) ?_
        obtain ⟨q36, eq36, h⟩ := bd_inv h
        obtain ⟨c37, h⟩ := gd_inv h
        obtain ⟨μ38, eμ38, h⟩ := lt_inv h
        rw [show q36 = (1, μ38) from by rw [← c37, eμ38]] at eq36
        refine g_callSW C E.2 (rest := []) 4 (ctx1_L_rents k0 hl eq36) wd_3_39 mw_L_rents ⟨by decide, by decide, by decide⟩ rfl (by decide) rfl (Nat.le_of_ble_eq_true rfl) (by decide) (dk kL_lets 107 rfl) ?_
        refine g_ldc C (v := (-2000001)) (C.w wd_2_194) (dk kL_lets 108 rfl) ?_
        refine g_icmp_ne C (tgt := 202) (dk kL_lets 109 rfl) (by decide) (fun c => absurd c (by decide)) (fun c39 => ?_)
        refine g_iload C (i := 6) 1 rfl (dk kL_lets 110 rfl) ?_
        refine g_if_eq C (tgt := 198) (dk kL_lets 111 rfl) (by decide) (fun c40 => ?_) (fun c40 => ?_)
        · replace h := ite_t h c40
          refine g_iconst C (v := 1) (by decide) (dk kL_lets 121 rfl) ?_
          refine g_goto C (tgt := 203) (dk kL_lets 122 rfl) (by decide) ?_
          obtain ⟨h8, h9⟩ := Prod.mk.inj (Option.some.inj h)
          subst h8
          subst h9
          exact g_iret C E rfl rfl (by decide) (by decide) (dk kL_lets 124 rfl)
        · replace h := ite_f h c40
          refine g_aload_n C (i := 0) 3 rfl rfl (dk kL_lets 112 rfl) ?_
          refine g_iload C (i := 5) 2 rfl (dk kL_lets 113 rfl) ?_
          refine g_iload C (i := 6) 1 rfl (dk kL_lets 114 rfl) ?_
          refine g_iload C (i := 6) 1 rfl (dk kL_lets 115 rfl) ?_
          refine g_iconst C (v := 1) (by decide) (dk kL_lets 116 rfl) ?_
          refine g_isub C (dk kL_lets 117 rfl) ?_
          obtain ⟨q41, eq41, h⟩ := bd_inv h
          obtain ⟨c42, h⟩ := gd_inv h
          obtain ⟨μ43, eμ43, h⟩ := lt_inv h
          rw [show q41 = (2, μ43) from by rw [← c42, eμ43]] at eq41
          refine g_callSW C E.2 (rest := []) 4 (ctx2_L_rents k0 hl eq41) wd_3_39 mw_L_rents ⟨by decide, by decide, by decide⟩ rfl (by decide) rfl (Nat.le_of_ble_eq_true rfl) (by decide) (dk kL_lets 118 rfl) ?_
          refine g_ldc C (v := (-2000002)) (C.w wd_2_133) (dk kL_lets 119 rfl) ?_
          refine g_icmp_ne C (tgt := 202) (dk kL_lets 120 rfl) (by decide) (fun c => absurd c (by decide)) (fun c44 => ?_)
          refine g_iconst C (v := 1) (by decide) (dk kL_lets 121 rfl) ?_
          refine g_goto C (tgt := 203) (dk kL_lets 122 rfl) (by decide) ?_
          obtain ⟨h8, h9⟩ := Prod.mk.inj (Option.some.inj h)
          subst h8
          subst h9
          exact g_iret C E rfl rfl (by decide) (by decide) (dk kL_lets 124 rfl)
    · replace h := ite_f h c6
      refine g_aload_n C (i := 2) 3 rfl rfl (dk kL_lets 28 rfl) ?_
      refine g_bipush C (v := 6) (by decide) (dk kL_lets 29 rfl) ?_
      refine g_iload C (i := 5) 0 rfl (dk kL_lets 30 rfl) ?_
      refine g_imul C (dk kL_lets 31 rfl) ?_
      obtain ⟨c45, h⟩ := gd_inv h
      refine g_iald C k2 c45 (dk kL_lets 32 rfl) ?_
      refine g_if_ge C (tgt := 75) (dk kL_lets 33 rfl) (by decide) (fun c46 => ?_) (fun c46 => ?_)
      · replace h := ite_t h c46
        refine g_aload_n C (i := 2) 3 rfl rfl (dk kL_lets 43 rfl) ?_
        refine g_bipush C (v := 6) (by decide) (dk kL_lets 44 rfl) ?_
        refine g_iload C (i := 5) 0 rfl (dk kL_lets 45 rfl) ?_
        refine g_imul C (dk kL_lets 46 rfl) ?_
        refine g_iconst C (v := 1) (by decide) (dk kL_lets 47 rfl) ?_
        refine g_iadd C (dk kL_lets 48 rfl) ?_
        obtain ⟨c47, h⟩ := gd_inv h
        refine g_iald C k2 c47 (dk kL_lets 49 rfl) ?_
        refine g_aload_n C (i := 2) 3 rfl rfl (dk kL_lets 50 rfl) ?_
        refine g_bipush C (v := 6) (by decide) (dk kL_lets 51 rfl) ?_
        refine g_iload C (i := 5) 0 rfl (dk kL_lets 52 rfl) ?_
        refine g_imul C (dk kL_lets 53 rfl) ?_
        obtain ⟨c48, h⟩ := gd_inv h
        refine g_iald C k2 c48 (dk kL_lets 54 rfl) ?_
        refine g_isub C (dk kL_lets 55 rfl) ?_
        refine g_iconst C (v := 1) (by decide) (dk kL_lets 56 rfl) ?_
        refine g_iadd C (dk kL_lets 57 rfl) ?_
        obtain ⟨x49, ex49, h⟩ := lt_inv h
        refine g_nmi ex49 ?_
        refine g_istore C (i := 6) (lv' := [(6, .int x49), (5, .int x5), (0, .ref (za Z a0)), (1, .ref (za Z a1)), (2, .ref (za Z a2)), (3, .int a3), (4, .int a4)]) (dk kL_lets 58 rfl) (by decide) rfl ?_
        refine g_aload_n C (i := 2) 4 rfl rfl (dk kL_lets 59 rfl) ?_
        refine g_bipush C (v := 6) (by decide) (dk kL_lets 60 rfl) ?_
        refine g_iload C (i := 5) 1 rfl (dk kL_lets 61 rfl) ?_
        refine g_imul C (dk kL_lets 62 rfl) ?_
        refine g_iconst C (v := (-1)) (by decide) (dk kL_lets 63 rfl) ?_
        obtain ⟨c50, h⟩ := gd_inv h
        obtain ⟨μ51, eμ51, h⟩ := lt_inv h
        refine g_iast C k2 c50 eμ51 (dk kL_lets 64 rfl) ?_
        refine g_aload_n C (i := 2) 4 rfl rfl (dk kL_lets 65 rfl) ?_
        refine g_bipush C (v := 6) (by decide) (dk kL_lets 66 rfl) ?_
        refine g_iload C (i := 5) 1 rfl (dk kL_lets 67 rfl) ?_
        refine g_imul C (dk kL_lets 68 rfl) ?_
        refine g_iconst C (v := 1) (by decide) (dk kL_lets 69 rfl) ?_
        refine g_iadd C (dk kL_lets 70 rfl) ?_
        refine g_iconst C (v := (-1)) (by decide) (dk kL_lets 71 rfl) ?_
        obtain ⟨c52, h⟩ := gd_inv h
        obtain ⟨μ53, eμ53, h⟩ := lt_inv h
        refine g_iast C k2 c52 eμ53 (dk kL_lets 72 rfl) ?_
        refine g_aload_n C (i := 0) 2 rfl rfl (dk kL_lets 73 rfl) ?_
        refine g_iload C (i := 5) 1 rfl (dk kL_lets 74 rfl) ?_
        obtain ⟨q54, eq54, h⟩ := bd_inv h
        obtain ⟨x56, ex56, h⟩ := lt_inv h
        obtain ⟨μ55, eμ55, h⟩ := lt_inv h
        rw [show q54 = (x56, μ55) from by rw [ex56, eμ55]] at eq54
        refine g_callSW C E.2 (rest := []) 2 (ct_L_ends k0 eq54) wd_3_16 mw_L_ends ⟨by decide, by decide, by decide⟩ rfl (by decide) rfl (Nat.le_of_ble_eq_true rfl) (by decide) (dk kL_lets 75 rfl) ?_
        refine g_iload C (i := 6) 0 rfl (dk kL_lets 76 rfl) ?_
        obtain ⟨c57, h⟩ := gd_inv h
        refine g_icmp_ne C (tgt := 129) (dk kL_lets 77 rfl) (by decide) (fun q => absurd c57 q) (fun _ => ?_)
        refine g_iconst C (v := 1) (by decide) (dk kL_lets 78 rfl) ?_
        refine g_goto C (tgt := 130) (dk kL_lets 79 rfl) (by decide) ?_
        obtain ⟨h8, h9⟩ := Prod.mk.inj (Option.some.inj h)
        subst h8
        subst h9
        exact g_iret C E rfl rfl (by decide) (by decide) (dk kL_lets 81 rfl)
      · replace h := ite_f h c46
        refine g_aload_n C (i := 0) 1 rfl rfl (dk kL_lets 34 rfl) ?_
        refine g_iload C (i := 5) 0 rfl (dk kL_lets 35 rfl) ?_
        obtain ⟨q58, eq58, h⟩ := bd_inv h
        obtain ⟨c59, h⟩ := gd_inv h
        obtain ⟨μ60, eμ60, h⟩ := lt_inv h
        rw [show q58 = (3, μ60) from by rw [← c59, eμ60]] at eq58
        refine g_callSW C E.2 (rest := []) 2 (ctx3_L_ends k0 hl eq58) wd_3_16 mw_L_ends ⟨by decide, by decide, by decide⟩ rfl (by decide) rfl (Nat.le_of_ble_eq_true rfl) (by decide) (dk kL_lets 36 rfl) ?_
        refine g_ldc C (v := (-2000003)) (C.w wd_2_169) (dk kL_lets 37 rfl) ?_
        refine g_icmp_ne C (tgt := 73) (dk kL_lets 38 rfl) (by decide) (fun c => absurd c (by decide)) (fun c61 => ?_)
        refine g_iconst C (v := 1) (by decide) (dk kL_lets 39 rfl) ?_
        refine g_goto C (tgt := 74) (dk kL_lets 40 rfl) (by decide) ?_
        obtain ⟨h8, h9⟩ := Prod.mk.inj (Option.some.inj h)
        subst h8
        subst h9
        exact g_iret C E rfl rfl (by decide) (by decide) (dk kL_lets 42 rfl)
  · replace h := ite_t h c2
    refine g_aload_n C (i := 0) 0 rfl rfl (dk kL_lets 4 rfl) ?_
    refine g_iconst C (v := 0) (by decide) (dk kL_lets 5 rfl) ?_
    obtain ⟨q62, eq62, h⟩ := bd_inv h
    obtain ⟨c63, h⟩ := gd_inv h
    obtain ⟨μ64, eμ64, h⟩ := lt_inv h
    rw [show q62 = (1, μ64) from by rw [← c63, eμ64]] at eq62
    refine g_callSW C E.2 (rest := []) 2 (ctx1_L_ends k0 hl eq62) wd_3_16 mw_L_ends ⟨by decide, by decide, by decide⟩ rfl (by decide) rfl (Nat.le_of_ble_eq_true rfl) (by decide) (dk kL_lets 6 rfl) ?_
    refine g_ldc C (v := (-2000001)) (C.w wd_2_194) (dk kL_lets 7 rfl) ?_
    refine g_icmp_ne C (tgt := 33) (dk kL_lets 8 rfl) (by decide) (fun c => absurd c (by decide)) (fun c65 => ?_)
    refine g_aload_n C (i := 0) 0 rfl rfl (dk kL_lets 9 rfl) ?_
    refine g_iconst C (v := 0) (by decide) (dk kL_lets 10 rfl) ?_
    refine g_iconst C (v := 0) (by decide) (dk kL_lets 11 rfl) ?_
    refine g_iconst C (v := 1) (by decide) (dk kL_lets 12 rfl) ?_
    obtain ⟨q66, eq66, h⟩ := bd_inv h
    obtain ⟨c67, h⟩ := gd_inv h
    obtain ⟨μ68, eμ68, h⟩ := lt_inv h
    rw [show q66 = (1, μ68) from by rw [← c67, eμ68]] at eq66
    refine g_callSW C E.2 (rest := []) 4 (ctx1_L_rents k0 hl eq66) wd_3_39 mw_L_rents ⟨by decide, by decide, by decide⟩ rfl (by decide) rfl (Nat.le_of_ble_eq_true rfl) (by decide) (dk kL_lets 13 rfl) ?_
    refine g_ldc C (v := (-2000001)) (C.w wd_2_194) (dk kL_lets 14 rfl) ?_
    refine g_icmp_ne C (tgt := 33) (dk kL_lets 15 rfl) (by decide) (fun c => absurd c (by decide)) (fun c69 => ?_)
    refine g_iconst C (v := 1) (by decide) (dk kL_lets 16 rfl) ?_
    refine g_goto C (tgt := 34) (dk kL_lets 17 rfl) (by decide) ?_
    obtain ⟨h8, h9⟩ := Prod.mk.inj (Option.some.inj h)
    subst h8
    subst h9
    exact g_iret C E rfl rfl (by decide) (by decide) (dk kL_lets 19 rfl)
theorem ct_L_lets {l : Launch} {Z : ZZ} {μ : Mm} {a0 : Nat} {a1 : Nat} {a2 : Nat} {a3 : Int32} {a4 : Int32} {r : Int32} {μ' : Mm} (k0 : (zk Z a0).1 = 5) (k1 : (zk Z a1).1 = 8) (k2 : (zk Z a2).1 = 8) (hl : l.stackTraces = false) (h : f_L_lets (zk Z) μ a0 a1 a2 a3 a4 = some (r, μ')) : CtM l Z false yL_lets cL_lets 10 (some .boolean) 9 2 12 [.ref (za Z a0), .ref (za Z a1), .ref (za Z a2), .int a3, .int a4] μ (some (.int r)) Z μ' := ct_of rfl rfl (Nat.le_of_ble_eq_true rfl) (fun X C E => t_L_lets μ a0 a1 a2 a3 a4 r μ' k0 k1 k2 h C hl E)
