def qL_low : List (Nat × Instr × Nat) := [(0, .iload_n 0, 1), (1, .ldc 8, 2), (3, .iand, 1), (4, .iload_n 1, 1), (5, .irem, 1), (6, .ireturn, 1)]
theorem kL_low : ∀ q ∈ qL_low, decode cL_low q.1 = .ok q.2 := by decide +kernel
def f_L_low (a0 : Int32) (a1 : Int32) : Option (Int32) :=
  gd (¬ a1 = 0) <| some ((a0 &&& 2147483647) - (a0 &&& 2147483647) / a1 * a1)
set_option maxRecDepth 100000 in
set_option maxHeartbeats 4000000 in
theorem t_L_low {l : Launch} {Z : ZZ} {X : XX} (μ : Mm) (a0 : Int32) (a1 : Int32) (r : Int32)  (h : f_L_low a0 a1 = some r) (C : Cx l Z false X cL_low RL 2 (some .int)) (E : Ex Z X 0 0 0 (some (.int r)) Z μ) : G Z X 2 0 0 0 [(0, .int a0), (1, .int a1)] [] μ := by
  unfold f_L_low at h
  refine g_iload_n C (i := 0) 0 rfl rfl (dk kL_low 0 rfl) ?_
  refine g_ldc C (v := 2147483647) (C.w wd_1_207) (dk kL_low 1 rfl) ?_
  refine g_iand C (dk kL_low 2 rfl) ?_
  refine g_iload_n C (i := 1) 1 rfl rfl (dk kL_low 3 rfl) ?_
  obtain ⟨c1, h⟩ := gd_inv h
  refine g_irem C c1 (dk kL_low 4 rfl) ?_
  have h9 := Option.some.inj h
  subst h9
  exact g_iret C E rfl rfl (by decide) (by decide) (dk kL_low 5 rfl)
theorem ct_L_low {l : Launch} {Z : ZZ} {μ : Mm} {a0 : Int32} {a1 : Int32} {r : Int32}  (h : f_L_low a0 a1 = some r) : CtM l Z false yL_low cL_low 2 (some .int) 0 0 0 [.int a0, .int a1] μ (some (.int r)) Z μ := ct_of rfl rfl (Nat.le_of_ble_eq_true rfl) (fun X C E => t_L_low μ a0 a1 r  h C E)

def qL_renter : List (Nat × Instr × Nat) := [(0, .iconst (-1), 1), (1, .istore_n 3, 1), (2, .iconst 0, 1), (3, .istore 4, 2), (5, .iload 4, 2), (7, .aload_n 0, 1), (8, .bipush 9, 2), (10, .iaload, 1), (11, .if_icmp .ge 50, 3), (14, .aload_n 1, 1), (15, .bipush 6, 2), (17, .iload 4, 2), (19, .imul, 1), (20, .iaload, 1), (21, .ifCond .lt 32, 3), (24, .iload_n 2, 1), (25, .aload_n 1, 1), (26, .bipush 6, 2), (28, .iload 4, 2), (30, .imul, 1), (31, .iaload, 1), (32, .if_icmp .lt 21, 3), (35, .iload_n 2, 1), (36, .aload_n 1, 1), (37, .bipush 6, 2), (39, .iload 4, 2), (41, .imul, 1), (42, .iconst 1, 1), (43, .iadd, 1), (44, .iaload, 1), (45, .if_icmp .gt 8, 3), (48, .iload 4, 2), (50, .goto 4, 3), (53, .iload_n 3, 1), (54, .istore_n 3, 1), (55, .iinc 4 1, 3), (58, .goto (-53), 3), (61, .iload_n 3, 1), (62, .ireturn, 1)]
theorem kL_renter : ∀ q ∈ qL_renter, decode cL_renter q.1 = .ok q.2 := by decide +kernel
def f_L_renter_l5 (K : Nat → Nat × Nat) (μ : Mm) (v0 : Nat) (v1 : Nat) (v2 : Int32) : Nat → Int32 → Int32 → Option (Int32)
  | 0, _, _ => none
  | n + 1, v3, v4 => gd (inb 9 (K v0).2) <| if (μ.1 v0 (ix 9)) ≤ v4 then (some v3) else (gd (inb (6 * v4) (K v1).2) <| bd (α := Int32) (if (μ.1 v1 (ix (6 * v4))) < 0 then (some v3) else (gd (inb (6 * v4) (K v1).2) <| if v2 < (μ.1 v1 (ix (6 * v4))) then (some v3) else (gd (inb ((6 * v4) + 1) (K v1).2) <| if (μ.1 v1 (ix ((6 * v4) + 1))) < v2 then (some v3) else (some v4)))) fun x4 => lt1 (α := Int32) (v4 + 1) fun x12 => f_L_renter_l5 K μ v0 v1 v2 n x4 x12)
def f_L_renter (K : Nat → Nat × Nat) (μ : Mm) (a0 : Nat) (a1 : Nat) (a2 : Int32) : Option (Int32) :=
  bd (f_L_renter_l5 K μ a0 a1 a2 FU (-1) 0) fun q13 => lt1 q13 fun x14 => some x14
set_option maxRecDepth 100000 in
set_option maxHeartbeats 4000000 in
theorem gl_L_renter_5 {l : Launch} {Z : ZZ} {X : XX} (v0 : Nat) (v1 : Nat) (v2 : Int32) (k0 : (zk Z v0).1 = 8) (k1 : (zk Z v1).1 = 8) (μ : Mm) (C : Cx l Z false X cL_renter RL 5 (some .int)) (E : xR X = rmm 0 0 0) : ∀ (n : Nat) (v3 : Int32) (v4 : Int32) (y : Int32), f_L_renter_l5 (zk Z) μ v0 v1 v2 n v3 v4 = some y → G Z X 5 0 0 61 [(3, .int y)] [] (μ) → G Z X 5 0 0 5 [(0, .ref (za Z v0)), (1, .ref (za Z v1)), (2, .int v2), (3, .int v3), (4, .int v4)] [] μ := by
  intro n
  induction n with
  | zero => intro v3 v4 y h he; unfold f_L_renter_l5 at h; cases h
  | succ n ih =>
    intro v3 v4 y h he
    unfold f_L_renter_l5 at h
    refine g_iload C (i := 4) 4 rfl (dk kL_renter 4 rfl) ?_
    refine g_aload_n C (i := 0) 0 rfl rfl (dk kL_renter 5 rfl) ?_
    refine g_bipush C (v := 9) (by decide) (dk kL_renter 6 rfl) ?_
    obtain ⟨c1, h⟩ := gd_inv h
    refine g_iald C k0 c1 (dk kL_renter 7 rfl) ?_
    refine g_icmp_ge C (tgt := 61) (dk kL_renter 8 rfl) (by decide) (fun c2 => ?_) (fun c2 => ?_)
    · replace h := ite_t h c2
      cases h
      exact g_sub [3] rfl he
    · replace h := ite_f h c2
      refine g_aload_n C (i := 1) 1 rfl rfl (dk kL_renter 9 rfl) ?_
      refine g_bipush C (v := 6) (by decide) (dk kL_renter 10 rfl) ?_
      refine g_iload C (i := 4) 4 rfl (dk kL_renter 11 rfl) ?_
      refine g_imul C (dk kL_renter 12 rfl) ?_
      obtain ⟨c3, h⟩ := gd_inv h
      refine g_iald C k1 c3 (dk kL_renter 13 rfl) ?_
      obtain ⟨x4, hx6, h⟩ := bd_inv h
      have kj5 : G Z X 5 0 0 54 [(0, .ref (za Z v0)), (1, .ref (za Z v1)), (2, .int v2), (3, .int v3), (4, .int v4)] [.int x4] μ := by
        refine g_istore_n C (i := 3) (lv' := [(3, .int x4), (0, .ref (za Z v0)), (1, .ref (za Z v1)), (2, .int v2), (4, .int v4)]) (dk kL_renter 34 rfl) rfl (by decide) rfl ?_
        obtain ⟨x12, ex12, h⟩ := lt_inv h
        refine g_iinc C (i := 4) (v := x12) (lv' := [(4, .int x12), (3, .int x4), (0, .ref (za Z v0)), (1, .ref (za Z v1)), (2, .int v2)]) 4 (dk kL_renter 35 rfl) rfl (by rw [ex12]; rfl) (by decide) rfl ?_
        refine g_goto C (tgt := 5) (dk kL_renter 36 rfl) (by decide) ?_
        exact g_sub [2, 3, 4, 1, 0] rfl (ih x4 x12 y h he)
      clear h
      have h := hx6
      clear hx6
      refine g_if_lt C (tgt := 53) (dk kL_renter 14 rfl) (by decide) (fun c7 => ?_) (fun c7 => ?_)
      · replace h := ite_t h c7
        refine g_iload_n C (i := 3) 3 rfl rfl (dk kL_renter 33 rfl) ?_
        have h9 := Option.some.inj h
        subst h9
        exact kj5
      · replace h := ite_f h c7
        refine g_iload_n C (i := 2) 2 rfl rfl (dk kL_renter 15 rfl) ?_
        refine g_aload_n C (i := 1) 1 rfl rfl (dk kL_renter 16 rfl) ?_
        refine g_bipush C (v := 6) (by decide) (dk kL_renter 17 rfl) ?_
        refine g_iload C (i := 4) 4 rfl (dk kL_renter 18 rfl) ?_
        refine g_imul C (dk kL_renter 19 rfl) ?_
        obtain ⟨c8, h⟩ := gd_inv h
        refine g_iald C k1 c8 (dk kL_renter 20 rfl) ?_
        refine g_icmp_lt C (tgt := 53) (dk kL_renter 21 rfl) (by decide) (fun c9 => ?_) (fun c9 => ?_)
        · replace h := ite_t h c9
          refine g_iload_n C (i := 3) 3 rfl rfl (dk kL_renter 33 rfl) ?_
          have h9 := Option.some.inj h
          subst h9
          exact kj5
        · replace h := ite_f h c9
          refine g_iload_n C (i := 2) 2 rfl rfl (dk kL_renter 22 rfl) ?_
          refine g_aload_n C (i := 1) 1 rfl rfl (dk kL_renter 23 rfl) ?_
          refine g_bipush C (v := 6) (by decide) (dk kL_renter 24 rfl) ?_
          refine g_iload C (i := 4) 4 rfl (dk kL_renter 25 rfl) ?_
          refine g_imul C (dk kL_renter 26 rfl) ?_
          refine g_iconst C (v := 1) (by decide) (dk kL_renter 27 rfl) ?_
          refine g_iadd C (dk kL_renter 28 rfl) ?_
          obtain ⟨c10, h⟩ := gd_inv h
          refine g_iald C k1 c10 (dk kL_renter 29 rfl) ?_
          refine g_icmp_gt C (tgt := 53) (dk kL_renter 30 rfl) (by decide) (fun c11 => ?_) (fun c11 => ?_)
          · replace h := ite_t h c11
            refine g_iload_n C (i := 3) 3 rfl rfl (dk kL_renter 33 rfl) ?_
            have h9 := Option.some.inj h
            subst h9
            exact kj5
          · replace h := ite_f h c11
            refine g_iload C (i := 4) 4 rfl (dk kL_renter 31 rfl) ?_
            refine g_goto C (tgt := 54) (dk kL_renter 32 rfl) (by decide) ?_
            have h9 := Option.some.inj h
            subst h9
            exact kj5
set_option maxRecDepth 100000 in
set_option maxHeartbeats 4000000 in
theorem t_L_renter {l : Launch} {Z : ZZ} {X : XX} (μ : Mm) (a0 : Nat) (a1 : Nat) (a2 : Int32) (r : Int32) (k0 : (zk Z a0).1 = 8) (k1 : (zk Z a1).1 = 8) (h : f_L_renter (zk Z) μ a0 a1 a2 = some r) (C : Cx l Z false X cL_renter RL 5 (some .int)) (E : Ex Z X 0 0 0 (some (.int r)) Z μ) : G Z X 5 0 0 0 [(0, .ref (za Z a0)), (1, .ref (za Z a1)), (2, .int a2)] [] μ := by
  unfold f_L_renter at h
  refine g_iconst C (v := (-1)) (by decide) (dk kL_renter 0 rfl) ?_
  refine g_istore_n C (i := 3) (lv' := [(3, .int (-1)), (0, .ref (za Z a0)), (1, .ref (za Z a1)), (2, .int a2)]) (dk kL_renter 1 rfl) rfl (by decide) rfl ?_
  refine g_iconst C (v := 0) (by decide) (dk kL_renter 2 rfl) ?_
  refine g_istore C (i := 4) (lv' := [(4, .int 0), (3, .int (-1)), (0, .ref (za Z a0)), (1, .ref (za Z a1)), (2, .int a2)]) (dk kL_renter 3 rfl) (by decide) rfl ?_
  obtain ⟨q13, eq13, h⟩ := bd_inv h
  refine g_sub [2, 3, 4, 1, 0] (lv' := [(0, .ref (za Z a0)), (1, .ref (za Z a1)), (2, .int a2), (3, .int (-1)), (4, .int 0)]) rfl ?_
  refine gl_L_renter_5 a0 a1 a2 k0 k1 μ C E.2 FU (-1) 0 _ eq13 ?_
  obtain ⟨x14, ex14, h⟩ := lt_inv h
  rw [← ex14]
  refine g_iload_n C (i := 3) 0 rfl rfl (dk kL_renter 37 rfl) ?_
  have h9 := Option.some.inj h
  subst h9
  exact g_iret C E rfl rfl (by decide) (by decide) (dk kL_renter 38 rfl)
theorem ct_L_renter {l : Launch} {Z : ZZ} {μ : Mm} {a0 : Nat} {a1 : Nat} {a2 : Int32} {r : Int32} (k0 : (zk Z a0).1 = 8) (k1 : (zk Z a1).1 = 8) (h : f_L_renter (zk Z) μ a0 a1 a2 = some r) : CtM l Z false yL_renter cL_renter 5 (some .int) 0 0 0 [.ref (za Z a0), .ref (za Z a1), .int a2] μ (some (.int r)) Z μ := ct_of rfl rfl (Nat.le_of_ble_eq_true rfl) (fun X C E => t_L_renter μ a0 a1 a2 r k0 k1 h C E)

def qL_blacks : List (Nat × Instr × Nat) := [(0, .iconst 0, 1), (1, .istore_n 2, 1), (2, .iconst 0, 1), (3, .istore_n 3, 1), (4, .iload_n 3, 1), (5, .bipush 72, 2), (7, .if_icmp .ge 32, 3), (10, .iload_n 2, 1), (11, .aload_n 0, 1), (12, .bipush 10, 2), (14, .iload_n 1, 1), (15, .imul, 1), (16, .iconst 2, 1), (17, .iadd, 1), (18, .iload_n 3, 1), (19, .bipush 12, 2), (21, .idiv, 1), (22, .iadd, 1), (23, .iaload, 1), (24, .iload_n 3, 1), (25, .bipush 12, 2), (27, .irem, 1), (28, .ishr, 1), (29, .iconst 1, 1), (30, .iand, 1), (31, .iadd, 1), (32, .istore_n 2, 1), (33, .iinc 3 1, 3), (36, .goto (-32), 3), (39, .iload_n 2, 1), (40, .ireturn, 1)]
theorem kL_blacks : ∀ q ∈ qL_blacks, decode cL_blacks q.1 = .ok q.2 := by decide +kernel
def f_L_blacks_l4 (K : Nat → Nat × Nat) (μ : Mm) (v0 : Nat) (v1 : Int32) : Nat → Int32 → Int32 → Option (Int32)
  | 0, _, _ => none
  | n + 1, v2, v3 => if 72 ≤ v3 then (some v2) else (gd (inb (((10 * v1) + 2) + (v3 / 12)) (K v0).2) <| lt1 (α := Int32) (v2 + (((μ.1 v0 (ix (((10 * v1) + 2) + (v3 / 12)))) >>> ((v3 - v3 / 12 * 12) &&& 31)) &&& 1)) fun x3 => lt1 (α := Int32) (v3 + 1) fun x4 => f_L_blacks_l4 K μ v0 v1 n x3 x4)
def f_L_blacks (K : Nat → Nat × Nat) (μ : Mm) (a0 : Nat) (a1 : Int32) : Option (Int32) :=
  bd (f_L_blacks_l4 K μ a0 a1 FU 0 0) fun q5 => lt1 q5 fun x6 => some x6
set_option maxRecDepth 100000 in
set_option maxHeartbeats 4000000 in
theorem gl_L_blacks_4 {l : Launch} {Z : ZZ} {X : XX} (v0 : Nat) (v1 : Int32) (k0 : (zk Z v0).1 = 8) (μ : Mm) (C : Cx l Z false X cL_blacks RL 4 (some .int)) (E : xR X = rmm 0 0 0) : ∀ (n : Nat) (v2 : Int32) (v3 : Int32) (y : Int32), f_L_blacks_l4 (zk Z) μ v0 v1 n v2 v3 = some y → G Z X 4 0 0 39 [(2, .int y)] [] (μ) → G Z X 4 0 0 4 [(0, .ref (za Z v0)), (1, .int v1), (2, .int v2), (3, .int v3)] [] μ := by
  intro n
  induction n with
  | zero => intro v2 v3 y h he; unfold f_L_blacks_l4 at h; cases h
  | succ n ih =>
    intro v2 v3 y h he
    unfold f_L_blacks_l4 at h
    refine g_iload_n C (i := 3) 3 rfl rfl (dk kL_blacks 4 rfl) ?_
    refine g_bipush C (v := 72) (by decide) (dk kL_blacks 5 rfl) ?_
    refine g_icmp_ge C (tgt := 39) (dk kL_blacks 6 rfl) (by decide) (fun c1 => ?_) (fun c1 => ?_)
    · replace h := ite_t h c1
      cases h
      exact g_sub [2] rfl he
    · replace h := ite_f h c1
      refine g_iload_n C (i := 2) 2 rfl rfl (dk kL_blacks 7 rfl) ?_
      refine g_aload_n C (i := 0) 0 rfl rfl (dk kL_blacks 8 rfl) ?_
      refine g_bipush C (v := 10) (by decide) (dk kL_blacks 9 rfl) ?_
      refine g_iload_n C (i := 1) 1 rfl rfl (dk kL_blacks 10 rfl) ?_
      refine g_imul C (dk kL_blacks 11 rfl) ?_
      refine g_iconst C (v := 2) (by decide) (dk kL_blacks 12 rfl) ?_
      refine g_iadd C (dk kL_blacks 13 rfl) ?_
      refine g_iload_n C (i := 3) 3 rfl rfl (dk kL_blacks 14 rfl) ?_
      refine g_bipush C (v := 12) (by decide) (dk kL_blacks 15 rfl) ?_
      refine g_idiv C (by decide) (dk kL_blacks 16 rfl) ?_
      refine g_iadd C (dk kL_blacks 17 rfl) ?_
      obtain ⟨c2, h⟩ := gd_inv h
      refine g_iald C k0 c2 (dk kL_blacks 18 rfl) ?_
      refine g_iload_n C (i := 3) 3 rfl rfl (dk kL_blacks 19 rfl) ?_
      refine g_bipush C (v := 12) (by decide) (dk kL_blacks 20 rfl) ?_
      refine g_irem C (by decide) (dk kL_blacks 21 rfl) ?_
      refine g_ishr C (dk kL_blacks 22 rfl) ?_
      refine g_iconst C (v := 1) (by decide) (dk kL_blacks 23 rfl) ?_
      refine g_iand C (dk kL_blacks 24 rfl) ?_
      refine g_iadd C (dk kL_blacks 25 rfl) ?_
      obtain ⟨x3, ex3, h⟩ := lt_inv h
      refine g_nmi ex3 ?_
      refine g_istore_n C (i := 2) (lv' := [(2, .int x3), (0, .ref (za Z v0)), (1, .int v1), (3, .int v3)]) (dk kL_blacks 26 rfl) rfl (by decide) rfl ?_
      obtain ⟨x4, ex4, h⟩ := lt_inv h
      refine g_iinc C (i := 3) (v := x4) (lv' := [(3, .int x4), (2, .int x3), (0, .ref (za Z v0)), (1, .int v1)]) 3 (dk kL_blacks 27 rfl) rfl (by rw [ex4]; rfl) (by decide) rfl ?_
      refine g_goto C (tgt := 4) (dk kL_blacks 28 rfl) (by decide) ?_
      exact g_sub [2, 3, 1, 0] rfl (ih x3 x4 y h he)
set_option maxRecDepth 100000 in
set_option maxHeartbeats 4000000 in
theorem t_L_blacks {l : Launch} {Z : ZZ} {X : XX} (μ : Mm) (a0 : Nat) (a1 : Int32) (r : Int32) (k0 : (zk Z a0).1 = 8) (h : f_L_blacks (zk Z) μ a0 a1 = some r) (C : Cx l Z false X cL_blacks RL 4 (some .int)) (E : Ex Z X 0 0 0 (some (.int r)) Z μ) : G Z X 4 0 0 0 [(0, .ref (za Z a0)), (1, .int a1)] [] μ := by
  unfold f_L_blacks at h
  refine g_iconst C (v := 0) (by decide) (dk kL_blacks 0 rfl) ?_
  refine g_istore_n C (i := 2) (lv' := [(2, .int 0), (0, .ref (za Z a0)), (1, .int a1)]) (dk kL_blacks 1 rfl) rfl (by decide) rfl ?_
  refine g_iconst C (v := 0) (by decide) (dk kL_blacks 2 rfl) ?_
  refine g_istore_n C (i := 3) (lv' := [(3, .int 0), (2, .int 0), (0, .ref (za Z a0)), (1, .int a1)]) (dk kL_blacks 3 rfl) rfl (by decide) rfl ?_
  obtain ⟨q5, eq5, h⟩ := bd_inv h
  refine g_sub [2, 3, 1, 0] (lv' := [(0, .ref (za Z a0)), (1, .int a1), (2, .int 0), (3, .int 0)]) rfl ?_
  refine gl_L_blacks_4 a0 a1 k0 μ C E.2 FU 0 0 _ eq5 ?_
  obtain ⟨x6, ex6, h⟩ := lt_inv h
  rw [← ex6]
  refine g_iload_n C (i := 2) 0 rfl rfl (dk kL_blacks 29 rfl) ?_
  have h9 := Option.some.inj h
  subst h9
  exact g_iret C E rfl rfl (by decide) (by decide) (dk kL_blacks 30 rfl)
theorem ct_L_blacks {l : Launch} {Z : ZZ} {μ : Mm} {a0 : Nat} {a1 : Int32} {r : Int32} (k0 : (zk Z a0).1 = 8) (h : f_L_blacks (zk Z) μ a0 a1 = some r) : CtM l Z false yL_blacks cL_blacks 4 (some .int) 0 0 0 [.ref (za Z a0), .int a1] μ (some (.int r)) Z μ := ct_of rfl rfl (Nat.le_of_ble_eq_true rfl) (fun X C E => t_L_blacks μ a0 a1 r k0 h C E)

def qL_why : List (Nat × Instr × Nat) := [(0, .iload 5, 2), (2, .aload_n 1, 1), (3, .bipush 10, 2), (5, .iload 4, 2), (7, .imul, 1), (8, .iaload, 1), (9, .iadd, 1), (10, .aload_n 0, 1), (11, .iconst 0, 1), (12, .iaload, 1), (13, .if_icmp .le 5, 3), (16, .iconst 1, 1), (17, .ireturn, 1), (18, .iload 5, 2), (20, .istore 6, 2), (22, .iload 6, 2), (24, .iload 5, 2), (26, .aload_n 1, 1), (27, .bipush 10, 2), (29, .iload 4, 2), (31, .imul, 1), (32, .iaload, 1), (33, .iadd, 1), (34, .if_icmp .ge 31, 3), (37, .aload_n 0, 1), (38, .aload_n 2, 1), (39, .iload 6, 2), (41, .invokestatic 57, 3), (44, .istore 7, 2), (46, .iload 7, 2), (48, .ifCond .lt 11, 3), (51, .iload 7, 2), (53, .iload_n 3, 1), (54, .if_icmp .eq 5, 3), (57, .iconst 2, 1), (58, .ireturn, 1), (59, .iinc 6 1, 3), (62, .goto (-40), 3), (65, .aload_n 1, 1), (66, .iload 4, 2), (68, .invokestatic 63, 3), (71, .ifCond .le 7, 3), (74, .iconst 0, 1), (75, .goto 4, 3), (78, .iconst 3, 1), (79, .ireturn, 1)]
theorem kL_why : ∀ q ∈ qL_why, decode cL_why q.1 = .ok q.2 := by decide +kernel
def f_L_why_l22 (K : Nat → Nat × Nat) (μ : Mm) (v0 : Nat) (v1 : Nat) (v2 : Nat) (v3 : Int32) (v4 : Int32) (v5 : Int32) : Nat → Int32 → Option ((Int32) ⊕ (Unit))
  | 0, _ => none
  | n + 1, v6 => gd (inb (10 * v4) (K v1).2) <| if (v5 + (μ.1 v1 (ix (10 * v4)))) ≤ v6 then (some (.inr ())) else (bd (f_L_renter K μ v0 v2 v6) fun x7 => if x7 < 0 then (lt1 (α := Int32) (v6 + 1) fun x9 => f_L_why_l22 K μ v0 v1 v2 v3 v4 v5 n x9) else (if x7 = v3 then (lt1 (α := Int32) (v6 + 1) fun x11 => f_L_why_l22 K μ v0 v1 v2 v3 v4 v5 n x11) else (some (.inl 2))))
def f_L_why (K : Nat → Nat × Nat) (μ : Mm) (a0 : Nat) (a1 : Nat) (a2 : Nat) (a3 : Int32) (a4 : Int32) (a5 : Int32) : Option (Int32) :=
  gd (inb (10 * a4) (K a1).2) <| gd (inb 0 (K a0).2) <| if (a5 + (μ.1 a1 (ix (10 * a4)))) ≤ (μ.1 a0 (ix 0)) then (bd (f_L_why_l22 K μ a0 a1 a2 a3 a4 a5 FU a5) fun q12 => (match q12 with | .inl r => some r | .inr q13 => bd (f_L_blacks K μ a1 a4) fun x15 => lt1 (α := Int32) (if x15 ≤ 0 then 3 else 0) fun x16 => some x16)) else (some 1)
set_option maxRecDepth 100000 in
set_option maxHeartbeats 4000000 in
theorem gl_L_why_22 {l : Launch} {Z : ZZ} {X : XX} (v0 : Nat) (v1 : Nat) (v2 : Nat) (v3 : Int32) (v4 : Int32) (v5 : Int32) (k0 : (zk Z v0).1 = 8) (k1 : (zk Z v1).1 = 8) (k2 : (zk Z v2).1 = 8) (μ : Mm) (C : Cx l Z false X cL_why RL 8 (some .int)) (E : xR X = rmm 1 0 0) : ∀ (n : Nat) (v6 : Int32) (y : (Int32) ⊕ (Unit)), f_L_why_l22 (zk Z) μ v0 v1 v2 v3 v4 v5 n v6 = some y → (∀ r, y = .inl r → Ex Z X 1 0 0 (some (.int r)) Z μ) → (∀ y9, y = .inr y9 → G Z X 8 0 0 65 [(1, .ref (za Z v1)), (4, .int v4)] [] (μ)) → G Z X 8 0 0 22 [(0, .ref (za Z v0)), (1, .ref (za Z v1)), (2, .ref (za Z v2)), (3, .int v3), (4, .int v4), (5, .int v5), (6, .int v6)] [] μ := by
  intro n
  induction n with
  | zero => intro v6 y h hr he; unfold f_L_why_l22 at h; cases h
  | succ n ih =>
    intro v6 y h hr he
    unfold f_L_why_l22 at h
    refine g_iload C (i := 6) 6 rfl (dk kL_why 15 rfl) ?_
    refine g_iload C (i := 5) 5 rfl (dk kL_why 16 rfl) ?_
    refine g_aload_n C (i := 1) 1 rfl rfl (dk kL_why 17 rfl) ?_
    refine g_bipush C (v := 10) (by decide) (dk kL_why 18 rfl) ?_
    refine g_iload C (i := 4) 4 rfl (dk kL_why 19 rfl) ?_
    refine g_imul C (dk kL_why 20 rfl) ?_
    obtain ⟨c4, h⟩ := gd_inv h
    refine g_iald C k1 c4 (dk kL_why 21 rfl) ?_
    refine g_iadd C (dk kL_why 22 rfl) ?_
    refine g_icmp_ge C (tgt := 65) (dk kL_why 23 rfl) (by decide) (fun c5 => ?_) (fun c5 => ?_)
    · replace h := ite_t h c5
      cases h
      exact g_sub [1, 4] rfl (he _ rfl)
    · replace h := ite_f h c5
      refine g_aload_n C (i := 0) 0 rfl rfl (dk kL_why 24 rfl) ?_
      refine g_aload_n C (i := 2) 2 rfl rfl (dk kL_why 25 rfl) ?_
      refine g_iload C (i := 6) 6 rfl (dk kL_why 26 rfl) ?_
      obtain ⟨x7, eq6, h⟩ := bd_inv h
      refine g_callS C E (rest := []) 3 (ct_L_renter k0 k2 eq6) wd_3_66 mm_L_renter ⟨by decide, by decide, by decide⟩ rfl (by decide) rfl (Nat.le_of_ble_eq_true rfl) (by decide) (dk kL_why 27 rfl) ?_
      refine g_istore C (i := 7) (lv' := [(7, .int x7), (0, .ref (za Z v0)), (1, .ref (za Z v1)), (2, .ref (za Z v2)), (3, .int v3), (4, .int v4), (5, .int v5), (6, .int v6)]) (dk kL_why 28 rfl) (by decide) rfl ?_
      refine g_iload C (i := 7) 0 rfl (dk kL_why 29 rfl) ?_
      refine g_if_lt C (tgt := 59) (dk kL_why 30 rfl) (by decide) (fun c8 => ?_) (fun c8 => ?_)
      · replace h := ite_t h c8
        obtain ⟨x9, ex9, h⟩ := lt_inv h
        refine g_iinc C (i := 6) (v := x9) (lv' := [(6, .int x9), (7, .int x7), (0, .ref (za Z v0)), (1, .ref (za Z v1)), (2, .ref (za Z v2)), (3, .int v3), (4, .int v4), (5, .int v5)]) 7 (dk kL_why 36 rfl) rfl (by rw [ex9]; rfl) (by decide) rfl ?_
        refine g_goto C (tgt := 22) (dk kL_why 37 rfl) (by decide) ?_
        exact g_sub [2, 3, 4, 5, 6, 7, 0] rfl (ih x9 y h hr he)
      · replace h := ite_f h c8
        refine g_iload C (i := 7) 0 rfl (dk kL_why 31 rfl) ?_
        refine g_iload_n C (i := 3) 4 rfl rfl (dk kL_why 32 rfl) ?_
        refine g_icmp_eq C (tgt := 59) (dk kL_why 33 rfl) (by decide) (fun c10 => ?_) (fun c10 => ?_)
        · replace h := ite_t h c10
          obtain ⟨x11, ex11, h⟩ := lt_inv h
          refine g_iinc C (i := 6) (v := x11) (lv' := [(6, .int x11), (7, .int x7), (0, .ref (za Z v0)), (1, .ref (za Z v1)), (2, .ref (za Z v2)), (3, .int v3), (4, .int v4), (5, .int v5)]) 7 (dk kL_why 36 rfl) rfl (by rw [ex11]; rfl) (by decide) rfl ?_
          refine g_goto C (tgt := 22) (dk kL_why 37 rfl) (by decide) ?_
          exact g_sub [2, 3, 4, 5, 6, 7, 0] rfl (ih x11 y h hr he)
        · replace h := ite_f h c10
          refine g_iconst C (v := 2) (by decide) (dk kL_why 34 rfl) ?_
          cases h
          have E := hr _ rfl
          exact g_iret C E rfl rfl (by decide) (by decide) (dk kL_why 35 rfl)
set_option maxRecDepth 100000 in
set_option maxHeartbeats 4000000 in
theorem t_L_why {l : Launch} {Z : ZZ} {X : XX} (μ : Mm) (a0 : Nat) (a1 : Nat) (a2 : Nat) (a3 : Int32) (a4 : Int32) (a5 : Int32) (r : Int32) (k0 : (zk Z a0).1 = 8) (k1 : (zk Z a1).1 = 8) (k2 : (zk Z a2).1 = 8) (h : f_L_why (zk Z) μ a0 a1 a2 a3 a4 a5 = some r) (C : Cx l Z false X cL_why RL 8 (some .int)) (E : Ex Z X 1 0 0 (some (.int r)) Z μ) : G Z X 8 0 0 0 [(0, .ref (za Z a0)), (1, .ref (za Z a1)), (2, .ref (za Z a2)), (3, .int a3), (4, .int a4), (5, .int a5)] [] μ := by
  unfold f_L_why at h
  refine g_iload C (i := 5) 5 rfl (dk kL_why 0 rfl) ?_
  refine g_aload_n C (i := 1) 1 rfl rfl (dk kL_why 1 rfl) ?_
  refine g_bipush C (v := 10) (by decide) (dk kL_why 2 rfl) ?_
  refine g_iload C (i := 4) 4 rfl (dk kL_why 3 rfl) ?_
  refine g_imul C (dk kL_why 4 rfl) ?_
  obtain ⟨c1, h⟩ := gd_inv h
  refine g_iald C k1 c1 (dk kL_why 5 rfl) ?_
  refine g_iadd C (dk kL_why 6 rfl) ?_
  refine g_aload_n C (i := 0) 0 rfl rfl (dk kL_why 7 rfl) ?_
  refine g_iconst C (v := 0) (by decide) (dk kL_why 8 rfl) ?_
  obtain ⟨c2, h⟩ := gd_inv h
  refine g_iald C k0 c2 (dk kL_why 9 rfl) ?_
  refine g_icmp_le C (tgt := 18) (dk kL_why 10 rfl) (by decide) (fun c3 => ?_) (fun c3 => ?_)
  · replace h := ite_t h c3
    refine g_iload C (i := 5) 5 rfl (dk kL_why 13 rfl) ?_
    refine g_istore C (i := 6) (lv' := [(6, .int a5), (0, .ref (za Z a0)), (1, .ref (za Z a1)), (2, .ref (za Z a2)), (3, .int a3), (4, .int a4), (5, .int a5)]) (dk kL_why 14 rfl) (by decide) rfl ?_
    obtain ⟨q12, eq12, h⟩ := bd_inv h
    refine g_sub [1, 2, 3, 4, 5, 6, 0] (lv' := [(0, .ref (za Z a0)), (1, .ref (za Z a1)), (2, .ref (za Z a2)), (3, .int a3), (4, .int a4), (5, .int a5), (6, .int a5)]) rfl ?_
    cases q12 with
    | inl r =>
      cases h
      exact gl_L_why_22 a0 a1 a2 a3 a4 a5 k0 k1 k2 μ C E.2 FU a5 _ eq12 (fun r hr9 => by cases hr9; exact E) (fun y hy9 => by cases hy9)
    | inr q13 =>
      refine gl_L_why_22 a0 a1 a2 a3 a4 a5 k0 k1 k2 μ C E.2 FU a5 _ eq12 (fun r hr9 => by cases hr9) (fun y hy9 => ?_)
      cases hy9
      refine g_aload_n C (i := 1) 0 rfl rfl (dk kL_why 38 rfl) ?_
      refine g_iload C (i := 4) 1 rfl (dk kL_why 39 rfl) ?_
      obtain ⟨x15, eq14, h⟩ := bd_inv h
      refine g_callS C E.2 (rest := []) 2 (ct_L_blacks k1 eq14) wd_3_174 mm_L_blacks ⟨by decide, by decide, by decide⟩ rfl (by decide) rfl (Nat.le_of_ble_eq_true rfl) (by decide) (dk kL_why 40 rfl) ?_
      obtain ⟨x16, ex16, h⟩ := lt_inv h
      have kj17 : G Z X 8 0 0 79 [(1, .ref (za Z a1)), (4, .int a4)] [.int x16] μ := by
        have h9 := Option.some.inj h
        subst h9
        exact g_iret C E rfl rfl (by decide) (by decide) (dk kL_why 45 rfl)
      clear h
      refine g_if_le C (tgt := 78) (dk kL_why 41 rfl) (by decide) (fun c18 => ?_) (fun c18 => ?_)
      · refine g_iconst C (v := 3) (by decide) (dk kL_why 44 rfl) ?_
        exact g_nmi (by rw [ex16, if_pos c18]) kj17
      · refine g_iconst C (v := 0) (by decide) (dk kL_why 42 rfl) ?_
        refine g_goto C (tgt := 79) (dk kL_why 43 rfl) (by decide) ?_
        exact g_nmi (by rw [ex16, if_neg c18]) kj17
  · replace h := ite_f h c3
    refine g_iconst C (v := 1) (by decide) (dk kL_why 11 rfl) ?_
    have h9 := Option.some.inj h
    subst h9
    exact g_iret C E rfl rfl (by decide) (by decide) (dk kL_why 12 rfl)
theorem ct_L_why {l : Launch} {Z : ZZ} {μ : Mm} {a0 : Nat} {a1 : Nat} {a2 : Nat} {a3 : Int32} {a4 : Int32} {a5 : Int32} {r : Int32} (k0 : (zk Z a0).1 = 8) (k1 : (zk Z a1).1 = 8) (k2 : (zk Z a2).1 = 8) (h : f_L_why (zk Z) μ a0 a1 a2 a3 a4 a5 = some r) : CtM l Z false yL_why cL_why 8 (some .int) 1 0 0 [.ref (za Z a0), .ref (za Z a1), .ref (za Z a2), .int a3, .int a4, .int a5] μ (some (.int r)) Z μ := ct_of rfl rfl (Nat.le_of_ble_eq_true rfl) (fun X C E => t_L_why μ a0 a1 a2 a3 a4 a5 r k0 k1 k2 h C E)

def qL_price : List (Nat × Instr × Nat) := [(0, .aload_n 2, 1), (1, .iload 5, 2), (3, .invokestatic 63, 3), (6, .aload_n 2, 1), (7, .bipush 10, 2), (9, .iload 5, 2), (11, .imul, 1), (12, .iconst 1, 1), (13, .iadd, 1), (14, .iaload, 1), (15, .imul, 1), (16, .aload_n 0, 1), (17, .bipush 7, 2), (19, .iaload, 1), (20, .imul, 1), (21, .istore 7, 2), (23, .iconst 0, 1), (24, .istore 8, 2), (26, .iconst 0, 1), (27, .istore 9, 2), (29, .aload_n 2, 1), (30, .bipush 10, 2), (32, .iload 5, 2), (34, .imul, 1), (35, .iaload, 1), (36, .istore 10, 2), (38, .iload 6, 2), (40, .istore 11, 2), (42, .iload 11, 2), (44, .iload 6, 2), (46, .iload 10, 2), (48, .iadd, 1), (49, .if_icmp .ge 40, 3), (52, .iload 8, 2), (54, .aload_n 1, 1), (55, .iload 11, 2), (57, .iaload, 1), (58, .iadd, 1), (59, .istore 8, 2), (61, .iload 9, 2), (63, .aload_n 0, 1), (64, .aload_n 3, 1), (65, .iload 11, 2), (67, .invokestatic 57, 3), (70, .iload 4, 2), (72, .if_icmp .ne 7, 3), (75, .iconst 1, 1), (76, .goto 4, 3), (79, .iconst 0, 1), (80, .iadd, 1), (81, .istore 9, 2), (83, .iinc 11 1, 3), (86, .goto (-44), 3), (89, .iload 8, 2), (91, .iload 10, 2), (93, .idiv, 1), (94, .sipush 900, 3), (97, .if_icmp .le 9, 3), (100, .sipush 900, 3), (103, .goto 8, 3), (106, .iload 8, 2), (108, .iload 10, 2), (110, .idiv, 1), (111, .istore 11, 2), (113, .iload 9, 2), (115, .iload 10, 2), (117, .if_icmp .ge 8, 3), (120, .iload 7, 2), (122, .goto 16, 3), (125, .iload 7, 2), (127, .sipush 1000, 3), (130, .iload 11, 2), (132, .isub, 1), (133, .imul, 1), (134, .sipush 1000, 3), (137, .idiv, 1), (138, .ireturn, 1)]
theorem kL_price : ∀ q ∈ qL_price, decode cL_price q.1 = .ok q.2 := by decide +kernel
def f_L_price_l42 (K : Nat → Nat × Nat) (μ : Mm) (v0 : Nat) (v1 : Nat) (v3 : Nat) (v4 : Int32) (v6 : Int32) (v7 : Int32) (v10 : Int32) : Nat → Int32 → Int32 → Int32 → Option (Int32 × Int32)
  | 0, _, _, _ => none
  | n + 1, v8, v9, v11 => if (v6 + v10) ≤ v11 then (some (v8, v9)) else (gd (inb v11 (K v1).2) <| lt1 (α := Int32) (v8 + (μ.1 v1 (ix v11))) fun x10 => bd (f_L_renter K μ v0 v3 v11) fun x12 => lt1 (α := Int32) (if x12 = v4 then 1 else 0) fun x13 => lt1 (α := Int32) (v9 + x13) fun x15 => lt1 (α := Int32) (v11 + 1) fun x16 => f_L_price_l42 K μ v0 v1 v3 v4 v6 v7 v10 n x10 x15 x16)
def f_L_price (K : Nat → Nat × Nat) (μ : Mm) (a0 : Nat) (a1 : Nat) (a2 : Nat) (a3 : Nat) (a4 : Int32) (a5 : Int32) (a6 : Int32) : Option (Int32) :=
  bd (f_L_blacks K μ a2 a5) fun x2 => gd (inb ((10 * a5) + 1) (K a2).2) <| gd (inb 7 (K a0).2) <| lt1 (α := Int32) ((x2 * (μ.1 a2 (ix ((10 * a5) + 1)))) * (μ.1 a0 (ix 7))) fun x5 => gd (inb (10 * a5) (K a2).2) <| lt1 (α := Int32) (μ.1 a2 (ix (10 * a5))) fun x7 => bd (f_L_price_l42 K μ a0 a1 a3 a4 a6 x5 x7 FU 0 0 a6) fun q18 => lt1 q18.1 fun x19 => lt1 q18.2 fun x20 => gd (¬ x7 = 0) <| bd (α := Int32) (if (x19 / x7) ≤ 900 then (gd (¬ x7 = 0) <| some (x19 / x7)) else (some 900)) fun x22 => lt1 (α := Int32) (if x7 ≤ x20 then ((x5 * (1000 - x22)) / 1000) else x5) fun x27 => some x27
set_option maxRecDepth 100000 in
set_option maxHeartbeats 4000000 in
theorem gl_L_price_42 {l : Launch} {Z : ZZ} {X : XX} (v0 : Nat) (v1 : Nat) (v3 : Nat) (v4 : Int32) (v6 : Int32) (v7 : Int32) (v10 : Int32) (k0 : (zk Z v0).1 = 8) (k1 : (zk Z v1).1 = 8) (k3 : (zk Z v3).1 = 8) (μ : Mm) (C : Cx l Z false X cL_price RL 12 (some .int)) (E : xR X = rmm 1 0 0) : ∀ (n : Nat) (v8 : Int32) (v9 : Int32) (v11 : Int32) (y : Int32 × Int32), f_L_price_l42 (zk Z) μ v0 v1 v3 v4 v6 v7 v10 n v8 v9 v11 = some y → G Z X 12 0 0 89 [(7, .int v7), (8, .int y.1), (9, .int y.2), (10, .int v10)] [] (μ) → G Z X 12 0 0 42 [(0, .ref (za Z v0)), (1, .ref (za Z v1)), (3, .ref (za Z v3)), (4, .int v4), (6, .int v6), (7, .int v7), (8, .int v8), (9, .int v9), (10, .int v10), (11, .int v11)] [] μ := by
  intro n
  induction n with
  | zero => intro v8 v9 v11 y h he; unfold f_L_price_l42 at h; cases h
  | succ n ih =>
    intro v8 v9 v11 y h he
    unfold f_L_price_l42 at h
    refine g_iload C (i := 11) 9 rfl (dk kL_price 28 rfl) ?_
    refine g_iload C (i := 6) 4 rfl (dk kL_price 29 rfl) ?_
    refine g_iload C (i := 10) 8 rfl (dk kL_price 30 rfl) ?_
    refine g_iadd C (dk kL_price 31 rfl) ?_
    refine g_icmp_ge C (tgt := 89) (dk kL_price 32 rfl) (by decide) (fun c8 => ?_) (fun c8 => ?_)
    · replace h := ite_t h c8
      cases h
      exact g_sub [5, 6, 7, 8] rfl he
    · replace h := ite_f h c8
      refine g_iload C (i := 8) 6 rfl (dk kL_price 33 rfl) ?_
      refine g_aload_n C (i := 1) 1 rfl rfl (dk kL_price 34 rfl) ?_
      refine g_iload C (i := 11) 9 rfl (dk kL_price 35 rfl) ?_
      obtain ⟨c9, h⟩ := gd_inv h
      refine g_iald C k1 c9 (dk kL_price 36 rfl) ?_
      refine g_iadd C (dk kL_price 37 rfl) ?_
      obtain ⟨x10, ex10, h⟩ := lt_inv h
      refine g_nmi ex10 ?_
      refine g_istore C (i := 8) (lv' := [(8, .int x10), (0, .ref (za Z v0)), (1, .ref (za Z v1)), (3, .ref (za Z v3)), (4, .int v4), (6, .int v6), (7, .int v7), (9, .int v9), (10, .int v10), (11, .int v11)]) (dk kL_price 38 rfl) (by decide) rfl ?_
      refine g_iload C (i := 9) 7 rfl (dk kL_price 39 rfl) ?_
      refine g_aload_n C (i := 0) 1 rfl rfl (dk kL_price 40 rfl) ?_
      refine g_aload_n C (i := 3) 3 rfl rfl (dk kL_price 41 rfl) ?_
      refine g_iload C (i := 11) 9 rfl (dk kL_price 42 rfl) ?_
      obtain ⟨x12, eq11, h⟩ := bd_inv h
      refine g_callS C E (rest := [.int v9]) 3 (ct_L_renter k0 k3 eq11) wd_3_66 mm_L_renter ⟨by decide, by decide, by decide⟩ rfl (by decide) rfl (Nat.le_of_ble_eq_true rfl) (by decide) (dk kL_price 43 rfl) ?_
      refine g_iload C (i := 4) 4 rfl (dk kL_price 44 rfl) ?_
      obtain ⟨x13, ex13, h⟩ := lt_inv h
      have kj14 : G Z X 12 0 0 80 [(8, .int x10), (0, .ref (za Z v0)), (1, .ref (za Z v1)), (3, .ref (za Z v3)), (4, .int v4), (6, .int v6), (7, .int v7), (9, .int v9), (10, .int v10), (11, .int v11)] [.int x13, .int v9] μ := by
        refine g_iadd C (dk kL_price 49 rfl) ?_
        obtain ⟨x15, ex15, h⟩ := lt_inv h
        refine g_nmi ex15 ?_
        refine g_istore C (i := 9) (lv' := [(9, .int x15), (8, .int x10), (0, .ref (za Z v0)), (1, .ref (za Z v1)), (3, .ref (za Z v3)), (4, .int v4), (6, .int v6), (7, .int v7), (10, .int v10), (11, .int v11)]) (dk kL_price 50 rfl) (by decide) rfl ?_
        obtain ⟨x16, ex16, h⟩ := lt_inv h
        refine g_iinc C (i := 11) (v := x16) (lv' := [(11, .int x16), (9, .int x15), (8, .int x10), (0, .ref (za Z v0)), (1, .ref (za Z v1)), (3, .ref (za Z v3)), (4, .int v4), (6, .int v6), (7, .int v7), (10, .int v10)]) 9 (dk kL_price 51 rfl) rfl (by rw [ex16]; rfl) (by decide) rfl ?_
        refine g_goto C (tgt := 42) (dk kL_price 52 rfl) (by decide) ?_
        exact g_sub [3, 4, 5, 6, 7, 8, 2, 1, 9, 0] rfl (ih x10 x15 x16 y h he)
      clear h
      refine g_icmp_ne C (tgt := 79) (dk kL_price 45 rfl) (by decide) (fun c17 => ?_) (fun c17 => ?_)
      · refine g_iconst C (v := 0) (by decide) (dk kL_price 48 rfl) ?_
        exact g_nmi (by rw [ex13, if_neg c17]) kj14
      · refine g_iconst C (v := 1) (by decide) (dk kL_price 46 rfl) ?_
        refine g_goto C (tgt := 80) (dk kL_price 47 rfl) (by decide) ?_
        exact g_nmi (by rw [ex13, if_pos c17]) kj14
set_option maxRecDepth 100000 in
set_option maxHeartbeats 4000000 in
theorem t_L_price {l : Launch} {Z : ZZ} {X : XX} (μ : Mm) (a0 : Nat) (a1 : Nat) (a2 : Nat) (a3 : Nat) (a4 : Int32) (a5 : Int32) (a6 : Int32) (r : Int32) (k0 : (zk Z a0).1 = 8) (k1 : (zk Z a1).1 = 8) (k2 : (zk Z a2).1 = 8) (k3 : (zk Z a3).1 = 8) (h : f_L_price (zk Z) μ a0 a1 a2 a3 a4 a5 a6 = some r) (C : Cx l Z false X cL_price RL 12 (some .int)) (E : Ex Z X 1 0 0 (some (.int r)) Z μ) : G Z X 12 0 0 0 [(0, .ref (za Z a0)), (1, .ref (za Z a1)), (2, .ref (za Z a2)), (3, .ref (za Z a3)), (4, .int a4), (5, .int a5), (6, .int a6)] [] μ := by
  unfold f_L_price at h
  refine g_aload_n C (i := 2) 2 rfl rfl (dk kL_price 0 rfl) ?_
  refine g_iload C (i := 5) 5 rfl (dk kL_price 1 rfl) ?_
  obtain ⟨x2, eq1, h⟩ := bd_inv h
  refine g_callS C E.2 (rest := []) 2 (ct_L_blacks k2 eq1) wd_3_174 mm_L_blacks ⟨by decide, by decide, by decide⟩ rfl (by decide) rfl (Nat.le_of_ble_eq_true rfl) (by decide) (dk kL_price 2 rfl) ?_
  refine g_aload_n C (i := 2) 2 rfl rfl (dk kL_price 3 rfl) ?_
  refine g_bipush C (v := 10) (by decide) (dk kL_price 4 rfl) ?_
  refine g_iload C (i := 5) 5 rfl (dk kL_price 5 rfl) ?_
  refine g_imul C (dk kL_price 6 rfl) ?_
  refine g_iconst C (v := 1) (by decide) (dk kL_price 7 rfl) ?_
  refine g_iadd C (dk kL_price 8 rfl) ?_
  obtain ⟨c3, h⟩ := gd_inv h
  refine g_iald C k2 c3 (dk kL_price 9 rfl) ?_
  refine g_imul C (dk kL_price 10 rfl) ?_
  refine g_aload_n C (i := 0) 0 rfl rfl (dk kL_price 11 rfl) ?_
  refine g_bipush C (v := 7) (by decide) (dk kL_price 12 rfl) ?_
  obtain ⟨c4, h⟩ := gd_inv h
  refine g_iald C k0 c4 (dk kL_price 13 rfl) ?_
  refine g_imul C (dk kL_price 14 rfl) ?_
  obtain ⟨x5, ex5, h⟩ := lt_inv h
  refine g_nmi ex5 ?_
  refine g_istore C (i := 7) (lv' := [(7, .int x5), (0, .ref (za Z a0)), (1, .ref (za Z a1)), (2, .ref (za Z a2)), (3, .ref (za Z a3)), (4, .int a4), (5, .int a5), (6, .int a6)]) (dk kL_price 15 rfl) (by decide) rfl ?_
  refine g_iconst C (v := 0) (by decide) (dk kL_price 16 rfl) ?_
  refine g_istore C (i := 8) (lv' := [(8, .int 0), (7, .int x5), (0, .ref (za Z a0)), (1, .ref (za Z a1)), (2, .ref (za Z a2)), (3, .ref (za Z a3)), (4, .int a4), (5, .int a5), (6, .int a6)]) (dk kL_price 17 rfl) (by decide) rfl ?_
  refine g_iconst C (v := 0) (by decide) (dk kL_price 18 rfl) ?_
  refine g_istore C (i := 9) (lv' := [(9, .int 0), (8, .int 0), (7, .int x5), (0, .ref (za Z a0)), (1, .ref (za Z a1)), (2, .ref (za Z a2)), (3, .ref (za Z a3)), (4, .int a4), (5, .int a5), (6, .int a6)]) (dk kL_price 19 rfl) (by decide) rfl ?_
  refine g_aload_n C (i := 2) 5 rfl rfl (dk kL_price 20 rfl) ?_
  refine g_bipush C (v := 10) (by decide) (dk kL_price 21 rfl) ?_
  refine g_iload C (i := 5) 8 rfl (dk kL_price 22 rfl) ?_
  refine g_imul C (dk kL_price 23 rfl) ?_
  obtain ⟨c6, h⟩ := gd_inv h
  refine g_iald C k2 c6 (dk kL_price 24 rfl) ?_
  obtain ⟨x7, ex7, h⟩ := lt_inv h
  refine g_nmi ex7 ?_
  refine g_istore C (i := 10) (lv' := [(10, .int x7), (9, .int 0), (8, .int 0), (7, .int x5), (0, .ref (za Z a0)), (1, .ref (za Z a1)), (2, .ref (za Z a2)), (3, .ref (za Z a3)), (4, .int a4), (5, .int a5), (6, .int a6)]) (dk kL_price 25 rfl) (by decide) rfl ?_
  refine g_iload C (i := 6) 10 rfl (dk kL_price 26 rfl) ?_
  refine g_istore C (i := 11) (lv' := [(11, .int a6), (10, .int x7), (9, .int 0), (8, .int 0), (7, .int x5), (0, .ref (za Z a0)), (1, .ref (za Z a1)), (2, .ref (za Z a2)), (3, .ref (za Z a3)), (4, .int a4), (5, .int a5), (6, .int a6)]) (dk kL_price 27 rfl) (by decide) rfl ?_
  obtain ⟨q18, eq18, h⟩ := bd_inv h
  refine g_sub [5, 6, 8, 9, 11, 4, 3, 2, 1, 0] (lv' := [(0, .ref (za Z a0)), (1, .ref (za Z a1)), (3, .ref (za Z a3)), (4, .int a4), (6, .int a6), (7, .int x5), (8, .int 0), (9, .int 0), (10, .int x7), (11, .int a6)]) rfl ?_
  refine gl_L_price_42 a0 a1 a3 a4 a6 x5 x7 k0 k1 k3 μ C E.2 FU 0 0 a6 _ eq18 ?_
  obtain ⟨x19, ex19, h⟩ := lt_inv h
  obtain ⟨x20, ex20, h⟩ := lt_inv h
  rw [← ex19, ← ex20]
  refine g_iload C (i := 8) 1 rfl (dk kL_price 53 rfl) ?_
  refine g_iload C (i := 10) 3 rfl (dk kL_price 54 rfl) ?_
  obtain ⟨c21, h⟩ := gd_inv h
  refine g_idiv C c21 (dk kL_price 55 rfl) ?_
  refine g_sipush C (v := 900) (by decide) (dk kL_price 56 rfl) ?_
  obtain ⟨x22, hx24, h⟩ := bd_inv h
  have kj23 : G Z X 12 0 0 111 [(7, .int x5), (8, .int x19), (9, .int x20), (10, .int x7)] [.int x22] μ := by
    refine g_istore C (i := 11) (lv' := [(11, .int x22), (7, .int x5), (8, .int x19), (9, .int x20), (10, .int x7)]) (dk kL_price 63 rfl) (by decide) rfl ?_
    refine g_iload C (i := 9) 3 rfl (dk kL_price 64 rfl) ?_
    refine g_iload C (i := 10) 4 rfl (dk kL_price 65 rfl) ?_
    obtain ⟨x27, ex27, h⟩ := lt_inv h
    have kj28 : G Z X 12 0 0 138 [(11, .int x22), (7, .int x5), (8, .int x19), (9, .int x20), (10, .int x7)] [.int x27] μ := by
      have h9 := Option.some.inj h
      subst h9
      exact g_iret C E rfl rfl (by decide) (by decide) (dk kL_price 76 rfl)
    clear h
    refine g_icmp_ge C (tgt := 125) (dk kL_price 66 rfl) (by decide) (fun c29 => ?_) (fun c29 => ?_)
    · refine g_iload C (i := 7) 1 rfl (dk kL_price 69 rfl) ?_
      refine g_sipush C (v := 1000) (by decide) (dk kL_price 70 rfl) ?_
      refine g_iload C (i := 11) 0 rfl (dk kL_price 71 rfl) ?_
      refine g_isub C (dk kL_price 72 rfl) ?_
      refine g_imul C (dk kL_price 73 rfl) ?_
      refine g_sipush C (v := 1000) (by decide) (dk kL_price 74 rfl) ?_
      refine g_idiv C (by decide) (dk kL_price 75 rfl) ?_
      exact g_nmi (by rw [ex27, if_pos c29]) kj28
    · refine g_iload C (i := 7) 1 rfl (dk kL_price 67 rfl) ?_
      refine g_goto C (tgt := 138) (dk kL_price 68 rfl) (by decide) ?_
      exact g_nmi (by rw [ex27, if_neg c29]) kj28
  clear h
  have h := hx24
  clear hx24
  refine g_icmp_le C (tgt := 106) (dk kL_price 57 rfl) (by decide) (fun c25 => ?_) (fun c25 => ?_)
  · replace h := ite_t h c25
    refine g_iload C (i := 8) 1 rfl (dk kL_price 60 rfl) ?_
    refine g_iload C (i := 10) 3 rfl (dk kL_price 61 rfl) ?_
    obtain ⟨c26, h⟩ := gd_inv h
    refine g_idiv C c26 (dk kL_price 62 rfl) ?_
    have h9 := Option.some.inj h
    subst h9
    exact kj23
  · replace h := ite_f h c25
    refine g_sipush C (v := 900) (by decide) (dk kL_price 58 rfl) ?_
    refine g_goto C (tgt := 111) (dk kL_price 59 rfl) (by decide) ?_
    have h9 := Option.some.inj h
    subst h9
    exact kj23
theorem ct_L_price {l : Launch} {Z : ZZ} {μ : Mm} {a0 : Nat} {a1 : Nat} {a2 : Nat} {a3 : Nat} {a4 : Int32} {a5 : Int32} {a6 : Int32} {r : Int32} (k0 : (zk Z a0).1 = 8) (k1 : (zk Z a1).1 = 8) (k2 : (zk Z a2).1 = 8) (k3 : (zk Z a3).1 = 8) (h : f_L_price (zk Z) μ a0 a1 a2 a3 a4 a5 a6 = some r) : CtM l Z false yL_price cL_price 12 (some .int) 1 0 0 [.ref (za Z a0), .ref (za Z a1), .ref (za Z a2), .ref (za Z a3), .int a4, .int a5, .int a6] μ (some (.int r)) Z μ := ct_of rfl rfl (Nat.le_of_ble_eq_true rfl) (fun X C E => t_L_price μ a0 a1 a2 a3 a4 a5 a6 r k0 k1 k2 k3 h C E)

def qL_fade : List (Nat × Instr × Nat) := [(0, .iload_n 1, 1), (1, .aload_n 0, 1), (2, .iconst 3, 1), (3, .iaload, 1), (4, .if_icmp .le 15, 3), (7, .iload_n 1, 1), (8, .aload_n 0, 1), (9, .iconst 3, 1), (10, .iaload, 1), (11, .isub, 1), (12, .aload_n 0, 1), (13, .iconst 4, 1), (14, .iaload, 1), (15, .idiv, 1), (16, .goto 4, 3), (19, .iconst 0, 1), (20, .ireturn, 1)]
theorem kL_fade : ∀ q ∈ qL_fade, decode cL_fade q.1 = .ok q.2 := by decide +kernel
def f_L_fade (K : Nat → Nat × Nat) (μ : Mm) (a0 : Nat) (a1 : Int32) : Option (Int32) :=
  gd (inb 3 (K a0).2) <| bd (α := Int32) (if a1 ≤ (μ.1 a0 (ix 3)) then (some 0) else (gd (inb 3 (K a0).2) <| gd (inb 4 (K a0).2) <| gd (¬ (μ.1 a0 (ix 4)) = 0) <| some ((a1 - (μ.1 a0 (ix 3))) / (μ.1 a0 (ix 4))))) fun x2 => some x2
set_option maxRecDepth 100000 in
set_option maxHeartbeats 4000000 in
theorem t_L_fade {l : Launch} {Z : ZZ} {X : XX} (μ : Mm) (a0 : Nat) (a1 : Int32) (r : Int32) (k0 : (zk Z a0).1 = 8) (h : f_L_fade (zk Z) μ a0 a1 = some r) (C : Cx l Z false X cL_fade RL 2 (some .int)) (E : Ex Z X 0 0 0 (some (.int r)) Z μ) : G Z X 2 0 0 0 [(0, .ref (za Z a0)), (1, .int a1)] [] μ := by
  unfold f_L_fade at h
  refine g_iload_n C (i := 1) 1 rfl rfl (dk kL_fade 0 rfl) ?_
  refine g_aload_n C (i := 0) 0 rfl rfl (dk kL_fade 1 rfl) ?_
  refine g_iconst C (v := 3) (by decide) (dk kL_fade 2 rfl) ?_
  obtain ⟨c1, h⟩ := gd_inv h
  refine g_iald C k0 c1 (dk kL_fade 3 rfl) ?_
  obtain ⟨x2, hx4, h⟩ := bd_inv h
  have kj3 : G Z X 2 0 0 20 [(0, .ref (za Z a0)), (1, .int a1)] [.int x2] μ := by
    have h9 := Option.some.inj h
    subst h9
    exact g_iret C E rfl rfl (by decide) (by decide) (dk kL_fade 16 rfl)
  clear h
  have h := hx4
  clear hx4
  refine g_icmp_le C (tgt := 19) (dk kL_fade 4 rfl) (by decide) (fun c5 => ?_) (fun c5 => ?_)
  · replace h := ite_t h c5
    refine g_iconst C (v := 0) (by decide) (dk kL_fade 15 rfl) ?_
    have h9 := Option.some.inj h
    subst h9
    exact kj3
  · replace h := ite_f h c5
    refine g_iload_n C (i := 1) 1 rfl rfl (dk kL_fade 5 rfl) ?_
    refine g_aload_n C (i := 0) 0 rfl rfl (dk kL_fade 6 rfl) ?_
    refine g_iconst C (v := 3) (by decide) (dk kL_fade 7 rfl) ?_
    obtain ⟨c6, h⟩ := gd_inv h
    refine g_iald C k0 c6 (dk kL_fade 8 rfl) ?_
    refine g_isub C (dk kL_fade 9 rfl) ?_
    refine g_aload_n C (i := 0) 0 rfl rfl (dk kL_fade 10 rfl) ?_
    refine g_iconst C (v := 4) (by decide) (dk kL_fade 11 rfl) ?_
    obtain ⟨c7, h⟩ := gd_inv h
    refine g_iald C k0 c7 (dk kL_fade 12 rfl) ?_
    obtain ⟨c8, h⟩ := gd_inv h
    refine g_idiv C c8 (dk kL_fade 13 rfl) ?_
    refine g_goto C (tgt := 20) (dk kL_fade 14 rfl) (by decide) ?_
    have h9 := Option.some.inj h
    subst h9
    exact kj3
theorem ct_L_fade {l : Launch} {Z : ZZ} {μ : Mm} {a0 : Nat} {a1 : Int32} {r : Int32} (k0 : (zk Z a0).1 = 8) (h : f_L_fade (zk Z) μ a0 a1 = some r) : CtM l Z false yL_fade cL_fade 2 (some .int) 0 0 0 [.ref (za Z a0), .int a1] μ (some (.int r)) Z μ := ct_of rfl rfl (Nat.le_of_ble_eq_true rfl) (fun X C E => t_L_fade μ a0 a1 r k0 h C E)

def qL_lines_0 : List (Nat × Instr × Nat) := [(0, .iconst 0, 1), (1, .istore 7, 2), (3, .bipush 10, 2), (5, .aload 4, 2), (7, .bipush 10, 2), (9, .iload 5, 2), (11, .imul, 1), (12, .iconst 1, 1), (13, .iadd, 1), (14, .iaload, 1), (15, .imul, 1), (16, .istore 8, 2), (18, .iconst 0, 1), (19, .istore 9, 2), (21, .iload 9, 2), (23, .bipush 6, 2), (25, .if_icmp .ge 288, 3), (28, .iconst 0, 1), (29, .istore 10, 2), (31, .iload 10, 2), (33, .aload_n 0, 1), (34, .iconst 0, 1), (35, .iaload, 1), (36, .if_icmp .ge 263, 3), (39, .iload 10, 2), (41, .iload 6, 2), (43, .isub, 1), (44, .istore 11, 2), (46, .iload 11, 2), (48, .ifCond .lt 20, 3), (51, .iload 11, 2), (53, .aload 4, 2), (55, .bipush 10, 2), (57, .iload 5, 2), (59, .imul, 1), (60, .iaload, 1), (61, .if_icmp .ge 7, 3), (64, .iconst 1, 1), (65, .goto 4, 3), (68, .iconst 0, 1), (69, .istore 12, 2), (71, .iload 12, 2), (73, .ifCond .eq 29, 3), (76, .aload 4, 2), (78, .bipush 10, 2), (80, .iload 5, 2), (82, .imul, 1), (83, .iconst 2, 1), (84, .iadd, 1), (85, .iload 9, 2), (87, .iadd, 1), (88, .iaload, 1), (89, .iload 11, 2), (91, .ishr, 1), (92, .iconst 1, 1), (93, .iand, 1), (94, .iconst 1, 1), (95, .if_icmp .ne 7, 3), (98, .iconst 1, 1), (99, .goto 4, 3)]
theorem kL_lines_0 : ∀ q ∈ qL_lines_0, decode cL_lines q.1 = .ok q.2 := by decide +kernel
def qL_lines_1 : List (Nat × Instr × Nat) := [(102, .iconst 0, 1), (103, .istore 13, 2), (105, .iload 7, 2), (107, .iload 12, 2), (109, .ifCond .eq 39, 3), (112, .iload 13, 2), (114, .ifCond .eq 20, 3), (117, .aload_n 0, 1), (118, .aload_n 2, 1), (119, .iload 10, 2), (121, .iaload, 1), (122, .invokestatic 67, 3), (125, .aload_n 0, 1), (126, .iconst 5, 1), (127, .iaload, 1), (128, .if_icmp .le 20, 3), (131, .goto 13, 3), (134, .aload_n 1, 1), (135, .iload 10, 2), (137, .iaload, 1), (138, .aload_n 0, 1), (139, .iconst 2, 1), (140, .iaload, 1), (141, .if_icmp .le 7, 3), (144, .iconst 1, 1), (145, .goto 4, 3), (148, .iconst 0, 1), (149, .iadd, 1), (150, .istore 7, 2), (152, .iload 13, 2), (154, .ifCond .eq 44, 3), (157, .aload_n 1, 1), (158, .iload 10, 2), (160, .iaload, 1), (161, .iload 8, 2), (163, .if_icmp .ge 35, 3), (166, .iload 8, 2), (168, .aload_n 1, 1), (169, .iload 10, 2), (171, .iaload, 1), (172, .isub, 1), (173, .bipush 10, 2), (175, .idiv, 1), (176, .iload 8, 2), (178, .aload_n 1, 1), (179, .iload 10, 2), (181, .iaload, 1), (182, .isub, 1), (183, .bipush 10, 2), (185, .irem, 1), (186, .ifCond .le 7, 3), (189, .iconst 1, 1), (190, .goto 4, 3), (193, .iconst 0, 1), (194, .iadd, 1), (195, .goto 4, 3), (198, .iconst 0, 1), (199, .istore 14, 2), (201, .aload_n 2, 1), (202, .iload 10, 2)]
theorem kL_lines_1 : ∀ q ∈ qL_lines_1, decode cL_lines q.1 = .ok q.2 := by decide +kernel
def qL_lines_2 : List (Nat × Instr × Nat) := [(204, .aload_n 2, 1), (205, .iload 10, 2), (207, .iaload, 1), (208, .iload 14, 2), (210, .iadd, 1), (211, .sipush 9999, 3), (214, .if_icmp .le 9, 3), (217, .sipush 9999, 3), (220, .goto 10, 3), (223, .aload_n 2, 1), (224, .iload 10, 2), (226, .iaload, 1), (227, .iload 14, 2), (229, .iadd, 1), (230, .iastore, 1), (231, .aload_n 3, 1), (232, .iload 10, 2), (234, .dup2, 1), (235, .iaload, 1), (236, .iload 14, 2), (238, .iadd, 1), (239, .iastore, 1), (240, .aload_n 0, 1), (241, .bipush 10, 2), (243, .dup2, 1), (244, .iaload, 1), (245, .iload 14, 2), (247, .iadd, 1), (248, .iastore, 1), (249, .aload_n 1, 1), (250, .iload 10, 2), (252, .iload 14, 2), (254, .ifCond .le 8, 3), (257, .iload 8, 2), (259, .goto 7, 3), (262, .aload_n 1, 1), (263, .iload 10, 2), (265, .iaload, 1), (266, .iastore, 1), (267, .aload_n 1, 1), (268, .iload 10, 2), (270, .aload_n 1, 1), (271, .iload 10, 2), (273, .iaload, 1), (274, .aload_n 0, 1), (275, .iconst 1, 1), (276, .iaload, 1), (277, .if_icmp .le 14, 3), (280, .aload_n 1, 1), (281, .iload 10, 2), (283, .iaload, 1), (284, .aload_n 0, 1), (285, .iconst 1, 1), (286, .iaload, 1), (287, .isub, 1), (288, .goto 4, 3), (291, .iconst 0, 1), (292, .iastore, 1), (293, .iinc 10 1, 3), (296, .goto (-265), 3)]
theorem kL_lines_2 : ∀ q ∈ qL_lines_2, decode cL_lines q.1 = .ok q.2 := by decide +kernel
def qL_lines_3 : List (Nat × Instr × Nat) := [(299, .aload_n 0, 1), (300, .bipush 13, 2), (302, .dup2, 1), (303, .iaload, 1), (304, .iconst 1, 1), (305, .iadd, 1), (306, .iastore, 1), (307, .iinc 9 1, 3), (310, .goto (-289), 3), (313, .iload 7, 2), (315, .ireturn, 1)]
theorem kL_lines_3 : ∀ q ∈ qL_lines_3, decode cL_lines q.1 = .ok q.2 := by decide +kernel
def qL_lines : List (Nat × Instr × Nat) := qL_lines_0 ++ (qL_lines_1 ++ (qL_lines_2 ++ (qL_lines_3)))
theorem kL_lines : ∀ q ∈ qL_lines, decode cL_lines q.1 = .ok q.2 := List.forall_mem_append.mpr ⟨kL_lines_0, List.forall_mem_append.mpr ⟨kL_lines_1, List.forall_mem_append.mpr ⟨kL_lines_2, kL_lines_3⟩⟩⟩
def f_L_lines_l31 (K : Nat → Nat × Nat) (v0 : Nat) (v1 : Nat) (v2 : Nat) (v3 : Nat) (v4 : Nat) (v5 : Int32) (v6 : Int32) (v8 : Int32) (v9 : Int32) : Nat → Mm → Int32 → Int32 → Option (Int32 × Mm)
  | 0, _, _, _ => none
  | n + 1, μ, v7, v10 => gd (inb 0 (K v0).2) <| if (μ.1 v0 (ix 0)) ≤ v10 then (some (v7, μ)) else (lt1 (α := Int32) (v10 - v6) fun x6 => bd (α := Int32) (if x6 < 0 then (some 0) else (gd (inb (10 * v5) (K v4).2) <| if (μ.1 v4 (ix (10 * v5))) ≤ x6 then (some 0) else (some 1))) fun x7 => bd (α := Int32) (if x7 = 0 then (some 0) else (gd (inb (((10 * v5) + 2) + v9) (K v4).2) <| if (((μ.1 v4 (ix (((10 * v5) + 2) + v9))) >>> (x6 &&& 31)) &&& 1) = 1 then (some 1) else (some 0))) fun x13 => bd (α := Int32) (if x7 = 0 then (some 0) else (if x13 = 0 then (gd (inb v10 (K v1).2) <| gd (inb 2 (K v0).2) <| if (μ.1 v1 (ix v10)) ≤ (μ.1 v0 (ix 2)) then (some 0) else (some 1)) else (gd (inb v10 (K v2).2) <| bd (f_L_fade K μ v0 (μ.1 v2 (ix v10))) fun x29 => gd (inb 5 (K v0).2) <| if x29 ≤ (μ.1 v0 (ix 5)) then (some 0) else (some 1)))) fun x19 => lt1 (α := Int32) (v7 + x19) fun x32 => bd (α := Int32) (if x13 = 0 then (some 0) else (gd (inb v10 (K v1).2) <| if v8 ≤ (μ.1 v1 (ix v10)) then (some 0) else (gd (inb v10 (K v1).2) <| gd (inb v10 (K v1).2) <| lt1 (α := Int32) (if ((v8 - (μ.1 v1 (ix v10))) - (v8 - (μ.1 v1 (ix v10))) / 10 * 10) ≤ 0 then 0 else 1) fun x41 => some (((v8 - (μ.1 v1 (ix v10))) / 10) + x41)))) fun x33 => gd (inb v10 (K v2).2) <| bd (α := Int32) (if ((μ.1 v2 (ix v10)) + x33) ≤ 9999 then (gd (inb v10 (K v2).2) <| some ((μ.1 v2 (ix v10)) + x33)) else (some 9999)) fun x45 => gd (inb v10 (K v2).2) <| lt1 (sI μ v2 (ix v10) x45) fun μ51 => gd (inb v10 (K v3).2) <| gd (inb v10 (K v3).2) <| lt1 (sI μ51 v3 (ix v10) ((μ51.1 v3 (ix v10)) + x33)) fun μ54 => gd (inb 10 (K v0).2) <| gd (inb 10 (K v0).2) <| lt1 (sI μ54 v0 (ix 10) ((μ54.1 v0 (ix 10)) + x33)) fun μ57 => bd (α := Int32) (if x33 ≤ 0 then (gd (inb v10 (K v1).2) <| some (μ57.1 v1 (ix v10))) else (some v8)) fun x58 => gd (inb v10 (K v1).2) <| lt1 (sI μ57 v1 (ix v10) x58) fun μ64 => gd (inb v10 (K v1).2) <| gd (inb 1 (K v0).2) <| bd (α := Int32) (if (μ64.1 v1 (ix v10)) ≤ (μ64.1 v0 (ix 1)) then (some 0) else (gd (inb v10 (K v1).2) <| gd (inb 1 (K v0).2) <| some ((μ64.1 v1 (ix v10)) - (μ64.1 v0 (ix 1))))) fun x67 => gd (inb v10 (K v1).2) <| lt1 (sI μ64 v1 (ix v10) x67) fun μ74 => lt1 (α := Int32) (v10 + 1) fun x75 => f_L_lines_l31 K v0 v1 v2 v3 v4 v5 v6 v8 v9 n μ74 x32 x75)
def f_L_lines_l21 (K : Nat → Nat × Nat) (v0 : Nat) (v1 : Nat) (v2 : Nat) (v3 : Nat) (v4 : Nat) (v5 : Int32) (v6 : Int32) (v8 : Int32) : Nat → Mm → Int32 → Int32 → Option (Int32 × Mm)
  | 0, _, _, _ => none
  | n + 1, μ, v7, v9 => if 6 ≤ v9 then (some (v7, μ)) else (bd (f_L_lines_l31 K v0 v1 v2 v3 v4 v5 v6 v8 v9 FU μ v7 0) fun q76 => lt1 q76.1 fun x77 => lt1 q76.2 fun μ78 => gd (inb 13 (K v0).2) <| gd (inb 13 (K v0).2) <| lt1 (sI μ78 v0 (ix 13) ((μ78.1 v0 (ix 13)) + 1)) fun μ81 => lt1 (α := Int32) (v9 + 1) fun x82 => f_L_lines_l21 K v0 v1 v2 v3 v4 v5 v6 v8 n μ81 x77 x82)
def f_L_lines (K : Nat → Nat × Nat) (μ : Mm) (a0 : Nat) (a1 : Nat) (a2 : Nat) (a3 : Nat) (a4 : Nat) (a5 : Int32) (a6 : Int32) : Option (Int32 × Mm) :=
  gd (inb ((10 * a5) + 1) (K a4).2) <| lt1 (α := Int32) (10 * (μ.1 a4 (ix ((10 * a5) + 1)))) fun x2 => bd (f_L_lines_l21 K a0 a1 a2 a3 a4 a5 a6 x2 FU μ 0 0) fun q83 => lt1 q83.1 fun x84 => lt1 q83.2 fun μ85 => some (x84, μ85)
set_option maxRecDepth 100000 in
set_option maxHeartbeats 4000000 in
theorem gl_L_lines_31 {l : Launch} {Z : ZZ} {X : XX} (v0 : Nat) (v1 : Nat) (v2 : Nat) (v3 : Nat) (v4 : Nat) (v5 : Int32) (v6 : Int32) (v8 : Int32) (v9 : Int32) (k0 : (zk Z v0).1 = 8) (k1 : (zk Z v1).1 = 8) (k2 : (zk Z v2).1 = 8) (k3 : (zk Z v3).1 = 8) (k4 : (zk Z v4).1 = 8) (C : Cx l Z false X cL_lines RL 15 (some .int)) (E : xR X = rmm 1 0 0) : ∀ (n : Nat) (μ : Mm) (v7 : Int32) (v10 : Int32) (y : Int32 × Mm), f_L_lines_l31 (zk Z) v0 v1 v2 v3 v4 v5 v6 v8 v9 n μ v7 v10 = some y → G Z X 15 0 0 299 [(0, .ref (za Z v0)), (1, .ref (za Z v1)), (2, .ref (za Z v2)), (3, .ref (za Z v3)), (4, .ref (za Z v4)), (5, .int v5), (6, .int v6), (7, .int y.1), (8, .int v8), (9, .int v9)] [] y.2 → G Z X 15 0 0 31 [(0, .ref (za Z v0)), (1, .ref (za Z v1)), (2, .ref (za Z v2)), (3, .ref (za Z v3)), (4, .ref (za Z v4)), (5, .int v5), (6, .int v6), (7, .int v7), (8, .int v8), (9, .int v9), (10, .int v10)] [] μ := by
  intro n
  induction n with
  | zero => intro μ v7 v10 y h he; unfold f_L_lines_l31 at h; cases h
  | succ n ih =>
    intro μ v7 v10 y h he
    unfold f_L_lines_l31 at h
    refine g_iload C (i := 10) 10 rfl (dk kL_lines 19 rfl) ?_
    refine g_aload_n C (i := 0) 0 rfl rfl (dk kL_lines 20 rfl) ?_
    refine g_iconst C (v := 0) (by decide) (dk kL_lines 21 rfl) ?_
    obtain ⟨c4, h⟩ := gd_inv h
    refine g_iald C k0 c4 (dk kL_lines 22 rfl) ?_
    refine g_icmp_ge C (tgt := 299) (dk kL_lines 23 rfl) (by decide) (fun c5 => ?_) (fun c5 => ?_)
    · replace h := ite_t h c5
      cases h
      exact g_sub [0, 1, 2, 3, 4, 5, 6, 7, 8, 9] rfl he
    · replace h := ite_f h c5
      refine g_iload C (i := 10) 10 rfl (dk kL_lines 24 rfl) ?_
      refine g_iload C (i := 6) 6 rfl (dk kL_lines 25 rfl) ?_
      refine g_isub C (dk kL_lines 26 rfl) ?_
      obtain ⟨x6, ex6, h⟩ := lt_inv h
      refine g_nmi ex6 ?_
      refine g_istore C (i := 11) (lv' := [(11, .int x6), (0, .ref (za Z v0)), (1, .ref (za Z v1)), (2, .ref (za Z v2)), (3, .ref (za Z v3)), (4, .ref (za Z v4)), (5, .int v5), (6, .int v6), (7, .int v7), (8, .int v8), (9, .int v9), (10, .int v10)]) (dk kL_lines 27 rfl) (by decide) rfl ?_
      refine g_iload C (i := 11) 0 rfl (dk kL_lines 28 rfl) ?_
      obtain ⟨x7, hx9, h⟩ := bd_inv h
      have kj8 : G Z X 15 0 0 69 [(11, .int x6), (0, .ref (za Z v0)), (1, .ref (za Z v1)), (2, .ref (za Z v2)), (3, .ref (za Z v3)), (4, .ref (za Z v4)), (5, .int v5), (6, .int v6), (7, .int v7), (8, .int v8), (9, .int v9), (10, .int v10)] [.int x7] μ := by
        refine g_istore C (i := 12) (lv' := [(12, .int x7), (11, .int x6), (0, .ref (za Z v0)), (1, .ref (za Z v1)), (2, .ref (za Z v2)), (3, .ref (za Z v3)), (4, .ref (za Z v4)), (5, .int v5), (6, .int v6), (7, .int v7), (8, .int v8), (9, .int v9), (10, .int v10)]) (dk kL_lines 40 rfl) (by decide) rfl ?_
        refine g_iload C (i := 12) 0 rfl (dk kL_lines 41 rfl) ?_
        obtain ⟨x13, hx15, h⟩ := bd_inv h
        have kj14 : G Z X 15 0 0 103 [(12, .int x7), (11, .int x6), (0, .ref (za Z v0)), (1, .ref (za Z v1)), (2, .ref (za Z v2)), (3, .ref (za Z v3)), (4, .ref (za Z v4)), (5, .int v5), (6, .int v6), (7, .int v7), (8, .int v8), (9, .int v9), (10, .int v10)] [.int x13] μ := by
          refine g_istore C (i := 13) (lv' := [(13, .int x13), (12, .int x7), (11, .int x6), (0, .ref (za Z v0)), (1, .ref (za Z v1)), (2, .ref (za Z v2)), (3, .ref (za Z v3)), (4, .ref (za Z v4)), (5, .int v5), (6, .int v6), (7, .int v7), (8, .int v8), (9, .int v9), (10, .int v10)]) (dk kL_lines 61 rfl) (by decide) rfl ?_
          refine g_iload C (i := 7) 10 rfl (dk kL_lines 62 rfl) ?_
          refine g_iload C (i := 12) 1 rfl (dk kL_lines 63 rfl) ?_
          obtain ⟨x19, hx21, h⟩ := bd_inv h
          have kj20 : G Z X 15 0 0 149 [(13, .int x13), (12, .int x7), (11, .int x6), (0, .ref (za Z v0)), (1, .ref (za Z v1)), (2, .ref (za Z v2)), (3, .ref (za Z v3)), (4, .ref (za Z v4)), (5, .int v5), (6, .int v6), (7, .int v7), (8, .int v8), (9, .int v9), (10, .int v10)] [.int x19, .int v7] μ := by
            refine g_iadd C (dk kL_lines 87 rfl) ?_
            obtain ⟨x32, ex32, h⟩ := lt_inv h
            refine g_nmi ex32 ?_
            refine g_istore C (i := 7) (lv' := [(7, .int x32), (13, .int x13), (12, .int x7), (11, .int x6), (0, .ref (za Z v0)), (1, .ref (za Z v1)), (2, .ref (za Z v2)), (3, .ref (za Z v3)), (4, .ref (za Z v4)), (5, .int v5), (6, .int v6), (8, .int v8), (9, .int v9), (10, .int v10)]) (dk kL_lines 88 rfl) (by decide) rfl ?_
            refine g_iload C (i := 13) 1 rfl (dk kL_lines 89 rfl) ?_
            obtain ⟨x33, hx35, h⟩ := bd_inv h
            have kj34 : G Z X 15 0 0 199 [(7, .int x32), (13, .int x13), (12, .int x7), (11, .int x6), (0, .ref (za Z v0)), (1, .ref (za Z v1)), (2, .ref (za Z v2)), (3, .ref (za Z v3)), (4, .ref (za Z v4)), (5, .int v5), (6, .int v6), (8, .int v8), (9, .int v9), (10, .int v10)] [.int x33] μ := by
              refine g_istore C (i := 14) (lv' := [(14, .int x33), (7, .int x32), (13, .int x13), (12, .int x7), (11, .int x6), (0, .ref (za Z v0)), (1, .ref (za Z v1)), (2, .ref (za Z v2)), (3, .ref (za Z v3)), (4, .ref (za Z v4)), (5, .int v5), (6, .int v6), (8, .int v8), (9, .int v9), (10, .int v10)]) (dk kL_lines 117 rfl) (by decide) rfl ?_
              refine g_aload_n C (i := 2) 7 rfl rfl (dk kL_lines 118 rfl) ?_
              refine g_iload C (i := 10) 14 rfl (dk kL_lines 119 rfl) ?_
              refine g_aload_n C (i := 2) 7 rfl rfl (dk kL_lines 120 rfl) ?_
              refine g_iload C (i := 10) 14 rfl (dk kL_lines 121 rfl) ?_
              obtain ⟨c44, h⟩ := gd_inv h
              refine g_iald C k2 c44 (dk kL_lines 122 rfl) ?_
              refine g_iload C (i := 14) 0 rfl (dk kL_lines 123 rfl) ?_
              refine g_iadd C (dk kL_lines 124 rfl) ?_
              refine g_sipush C (v := 9999) (by decide) (dk kL_lines 125 rfl) ?_
              obtain ⟨x45, hx47, h⟩ := bd_inv h
              have kj46 : G Z X 15 0 0 230 [(14, .int x33), (7, .int x32), (13, .int x13), (12, .int x7), (11, .int x6), (0, .ref (za Z v0)), (1, .ref (za Z v1)), (2, .ref (za Z v2)), (3, .ref (za Z v3)), (4, .ref (za Z v4)), (5, .int v5), (6, .int v6), (8, .int v8), (9, .int v9), (10, .int v10)] [.int x45, .int v10, .ref (za Z v2)] μ := by
                obtain ⟨c50, h⟩ := gd_inv h
                obtain ⟨μ51, eμ51, h⟩ := lt_inv h
                refine g_iast C k2 c50 eμ51 (dk kL_lines 134 rfl) ?_
                refine g_aload_n C (i := 3) 8 rfl rfl (dk kL_lines 135 rfl) ?_
                refine g_iload C (i := 10) 14 rfl (dk kL_lines 136 rfl) ?_
                refine g_dup2 C rfl rfl (dk kL_lines 137 rfl) ?_
                obtain ⟨c52, h⟩ := gd_inv h
                refine g_iald C k3 c52 (dk kL_lines 138 rfl) ?_
                refine g_iload C (i := 14) 0 rfl (dk kL_lines 139 rfl) ?_
                refine g_iadd C (dk kL_lines 140 rfl) ?_
                obtain ⟨c53, h⟩ := gd_inv h
                obtain ⟨μ54, eμ54, h⟩ := lt_inv h
                refine g_iast C k3 c53 eμ54 (dk kL_lines 141 rfl) ?_
                refine g_aload_n C (i := 0) 5 rfl rfl (dk kL_lines 142 rfl) ?_
                refine g_bipush C (v := 10) (by decide) (dk kL_lines 143 rfl) ?_
                refine g_dup2 C rfl rfl (dk kL_lines 144 rfl) ?_
                obtain ⟨c55, h⟩ := gd_inv h
                refine g_iald C k0 c55 (dk kL_lines 145 rfl) ?_
                refine g_iload C (i := 14) 0 rfl (dk kL_lines 146 rfl) ?_
                refine g_iadd C (dk kL_lines 147 rfl) ?_
                obtain ⟨c56, h⟩ := gd_inv h
                obtain ⟨μ57, eμ57, h⟩ := lt_inv h
                refine g_iast C k0 c56 eμ57 (dk kL_lines 148 rfl) ?_
                refine g_aload_n C (i := 1) 6 rfl rfl (dk kL_lines 149 rfl) ?_
                refine g_iload C (i := 10) 14 rfl (dk kL_lines 150 rfl) ?_
                refine g_iload C (i := 14) 0 rfl (dk kL_lines 151 rfl) ?_
                obtain ⟨x58, hx60, h⟩ := bd_inv h
                have kj59 : G Z X 15 0 0 266 [(14, .int x33), (7, .int x32), (13, .int x13), (12, .int x7), (11, .int x6), (0, .ref (za Z v0)), (1, .ref (za Z v1)), (2, .ref (za Z v2)), (3, .ref (za Z v3)), (4, .ref (za Z v4)), (5, .int v5), (6, .int v6), (8, .int v8), (9, .int v9), (10, .int v10)] [.int x58, .int v10, .ref (za Z v1)] μ57 := by
                  obtain ⟨c63, h⟩ := gd_inv h
                  obtain ⟨μ64, eμ64, h⟩ := lt_inv h
                  refine g_iast C k1 c63 eμ64 (dk kL_lines 158 rfl) ?_
                  refine g_aload_n C (i := 1) 6 rfl rfl (dk kL_lines 159 rfl) ?_
                  refine g_iload C (i := 10) 14 rfl (dk kL_lines 160 rfl) ?_
                  refine g_aload_n C (i := 1) 6 rfl rfl (dk kL_lines 161 rfl) ?_
                  refine g_iload C (i := 10) 14 rfl (dk kL_lines 162 rfl) ?_
                  obtain ⟨c65, h⟩ := gd_inv h
                  refine g_iald C k1 c65 (dk kL_lines 163 rfl) ?_
                  refine g_aload_n C (i := 0) 5 rfl rfl (dk kL_lines 164 rfl) ?_
                  refine g_iconst C (v := 1) (by decide) (dk kL_lines 165 rfl) ?_
                  obtain ⟨c66, h⟩ := gd_inv h
                  refine g_iald C k0 c66 (dk kL_lines 166 rfl) ?_
                  obtain ⟨x67, hx69, h⟩ := bd_inv h
                  have kj68 : G Z X 15 0 0 292 [(14, .int x33), (7, .int x32), (13, .int x13), (12, .int x7), (11, .int x6), (0, .ref (za Z v0)), (1, .ref (za Z v1)), (2, .ref (za Z v2)), (3, .ref (za Z v3)), (4, .ref (za Z v4)), (5, .int v5), (6, .int v6), (8, .int v8), (9, .int v9), (10, .int v10)] [.int x67, .int v10, .ref (za Z v1)] μ64 := by
                    obtain ⟨c73, h⟩ := gd_inv h
                    obtain ⟨μ74, eμ74, h⟩ := lt_inv h
                    refine g_iast C k1 c73 eμ74 (dk kL_lines 177 rfl) ?_
                    obtain ⟨x75, ex75, h⟩ := lt_inv h
                    refine g_iinc C (i := 10) (v := x75) (lv' := [(10, .int x75), (14, .int x33), (7, .int x32), (13, .int x13), (12, .int x7), (11, .int x6), (0, .ref (za Z v0)), (1, .ref (za Z v1)), (2, .ref (za Z v2)), (3, .ref (za Z v3)), (4, .ref (za Z v4)), (5, .int v5), (6, .int v6), (8, .int v8), (9, .int v9)]) 14 (dk kL_lines 178 rfl) rfl (by rw [ex75]; rfl) (by decide) rfl ?_
                    refine g_goto C (tgt := 31) (dk kL_lines 179 rfl) (by decide) ?_
                    exact g_sub [6, 7, 8, 9, 10, 11, 12, 2, 13, 14, 0] rfl (ih μ74 x32 x75 y h he)
                  clear h
                  have h := hx69
                  clear hx69
                  refine g_icmp_le C (tgt := 291) (dk kL_lines 167 rfl) (by decide) (fun c70 => ?_) (fun c70 => ?_)
                  · replace h := ite_t h c70
                    refine g_iconst C (v := 0) (by decide) (dk kL_lines 176 rfl) ?_
                    have h9 := Option.some.inj h
                    subst h9
                    exact kj68
                  · replace h := ite_f h c70
                    refine g_aload_n C (i := 1) 6 rfl rfl (dk kL_lines 168 rfl) ?_
                    refine g_iload C (i := 10) 14 rfl (dk kL_lines 169 rfl) ?_
                    obtain ⟨c71, h⟩ := gd_inv h
                    refine g_iald C k1 c71 (dk kL_lines 170 rfl) ?_
                    refine g_aload_n C (i := 0) 5 rfl rfl (dk kL_lines 171 rfl) ?_
                    refine g_iconst C (v := 1) (by decide) (dk kL_lines 172 rfl) ?_
                    obtain ⟨c72, h⟩ := gd_inv h
                    refine g_iald C k0 c72 (dk kL_lines 173 rfl) ?_
                    refine g_isub C (dk kL_lines 174 rfl) ?_
                    refine g_goto C (tgt := 292) (dk kL_lines 175 rfl) (by decide) ?_
                    have h9 := Option.some.inj h
                    subst h9
                    exact kj68
                clear h
                have h := hx60
                clear hx60
                refine g_if_le C (tgt := 262) (dk kL_lines 152 rfl) (by decide) (fun c61 => ?_) (fun c61 => ?_)
                · replace h := ite_t h c61
                  refine g_aload_n C (i := 1) 6 rfl rfl (dk kL_lines 155 rfl) ?_
                  refine g_iload C (i := 10) 14 rfl (dk kL_lines 156 rfl) ?_
                  obtain ⟨c62, h⟩ := gd_inv h
                  refine g_iald C k1 c62 (dk kL_lines 157 rfl) ?_
                  have h9 := Option.some.inj h
                  subst h9
                  exact kj59
                · replace h := ite_f h c61
                  refine g_iload C (i := 8) 12 rfl (dk kL_lines 153 rfl) ?_
                  refine g_goto C (tgt := 266) (dk kL_lines 154 rfl) (by decide) ?_
                  have h9 := Option.some.inj h
                  subst h9
                  exact kj59
              clear h
              have h := hx47
              clear hx47
              refine g_icmp_le C (tgt := 223) (dk kL_lines 126 rfl) (by decide) (fun c48 => ?_) (fun c48 => ?_)
              · replace h := ite_t h c48
                refine g_aload_n C (i := 2) 7 rfl rfl (dk kL_lines 129 rfl) ?_
                refine g_iload C (i := 10) 14 rfl (dk kL_lines 130 rfl) ?_
                obtain ⟨c49, h⟩ := gd_inv h
                refine g_iald C k2 c49 (dk kL_lines 131 rfl) ?_
                refine g_iload C (i := 14) 0 rfl (dk kL_lines 132 rfl) ?_
                refine g_iadd C (dk kL_lines 133 rfl) ?_
                have h9 := Option.some.inj h
                subst h9
                exact kj46
              · replace h := ite_f h c48
                refine g_sipush C (v := 9999) (by decide) (dk kL_lines 127 rfl) ?_
                refine g_goto C (tgt := 230) (dk kL_lines 128 rfl) (by decide) ?_
                have h9 := Option.some.inj h
                subst h9
                exact kj46
            clear h
            have h := hx35
            clear hx35
            refine g_if_eq C (tgt := 198) (dk kL_lines 90 rfl) (by decide) (fun c36 => ?_) (fun c36 => ?_)
            · replace h := ite_t h c36
              refine g_iconst C (v := 0) (by decide) (dk kL_lines 116 rfl) ?_
              have h9 := Option.some.inj h
              subst h9
              exact kj34
            · replace h := ite_f h c36
              refine g_aload_n C (i := 1) 5 rfl rfl (dk kL_lines 91 rfl) ?_
              refine g_iload C (i := 10) 13 rfl (dk kL_lines 92 rfl) ?_
              obtain ⟨c37, h⟩ := gd_inv h
              refine g_iald C k1 c37 (dk kL_lines 93 rfl) ?_
              refine g_iload C (i := 8) 11 rfl (dk kL_lines 94 rfl) ?_
              refine g_icmp_ge C (tgt := 198) (dk kL_lines 95 rfl) (by decide) (fun c38 => ?_) (fun c38 => ?_)
              · replace h := ite_t h c38
                refine g_iconst C (v := 0) (by decide) (dk kL_lines 116 rfl) ?_
                have h9 := Option.some.inj h
                subst h9
                exact kj34
              · replace h := ite_f h c38
                refine g_iload C (i := 8) 11 rfl (dk kL_lines 96 rfl) ?_
                refine g_aload_n C (i := 1) 5 rfl rfl (dk kL_lines 97 rfl) ?_
                refine g_iload C (i := 10) 13 rfl (dk kL_lines 98 rfl) ?_
                obtain ⟨c39, h⟩ := gd_inv h
                refine g_iald C k1 c39 (dk kL_lines 99 rfl) ?_
                refine g_isub C (dk kL_lines 100 rfl) ?_
                refine g_bipush C (v := 10) (by decide) (dk kL_lines 101 rfl) ?_
                refine g_idiv C (by decide) (dk kL_lines 102 rfl) ?_
                refine g_iload C (i := 8) 11 rfl (dk kL_lines 103 rfl) ?_
                refine g_aload_n C (i := 1) 5 rfl rfl (dk kL_lines 104 rfl) ?_
                refine g_iload C (i := 10) 13 rfl (dk kL_lines 105 rfl) ?_
                obtain ⟨c40, h⟩ := gd_inv h
                refine g_iald C k1 c40 (dk kL_lines 106 rfl) ?_
                refine g_isub C (dk kL_lines 107 rfl) ?_
                refine g_bipush C (v := 10) (by decide) (dk kL_lines 108 rfl) ?_
                refine g_irem C (by decide) (dk kL_lines 109 rfl) ?_
                obtain ⟨x41, ex41, h⟩ := lt_inv h
                have kj42 : G Z X 15 0 0 194 [(7, .int x32), (13, .int x13), (12, .int x7), (11, .int x6), (0, .ref (za Z v0)), (1, .ref (za Z v1)), (2, .ref (za Z v2)), (3, .ref (za Z v3)), (4, .ref (za Z v4)), (5, .int v5), (6, .int v6), (8, .int v8), (9, .int v9), (10, .int v10)] [.int x41, .int ((v8 - (μ.1 v1 (ix v10))) / 10)] μ := by
                  refine g_iadd C (dk kL_lines 114 rfl) ?_
                  refine g_goto C (tgt := 199) (dk kL_lines 115 rfl) (by decide) ?_
                  have h9 := Option.some.inj h
                  subst h9
                  exact kj34
                clear h
                refine g_if_le C (tgt := 193) (dk kL_lines 110 rfl) (by decide) (fun c43 => ?_) (fun c43 => ?_)
                · refine g_iconst C (v := 0) (by decide) (dk kL_lines 113 rfl) ?_
                  exact g_nmi (by rw [ex41, if_pos c43]) kj42
                · refine g_iconst C (v := 1) (by decide) (dk kL_lines 111 rfl) ?_
                  refine g_goto C (tgt := 194) (dk kL_lines 112 rfl) (by decide) ?_
                  exact g_nmi (by rw [ex41, if_neg c43]) kj42
          clear h
          have h := hx21
          clear hx21
          refine g_if_eq C (tgt := 148) (dk kL_lines 64 rfl) (by decide) (fun c22 => ?_) (fun c22 => ?_)
          · replace h := ite_t h c22
            refine g_iconst C (v := 0) (by decide) (dk kL_lines 86 rfl) ?_
            have h9 := Option.some.inj h
            subst h9
            exact kj20
          · replace h := ite_f h c22
            refine g_iload C (i := 13) 0 rfl (dk kL_lines 65 rfl) ?_
            refine g_if_eq C (tgt := 134) (dk kL_lines 66 rfl) (by decide) (fun c23 => ?_) (fun c23 => ?_)
            · replace h := ite_t h c23
              refine g_aload_n C (i := 1) 4 rfl rfl (dk kL_lines 77 rfl) ?_
              refine g_iload C (i := 10) 13 rfl (dk kL_lines 78 rfl) ?_
              obtain ⟨c24, h⟩ := gd_inv h
              refine g_iald C k1 c24 (dk kL_lines 79 rfl) ?_
              refine g_aload_n C (i := 0) 3 rfl rfl (dk kL_lines 80 rfl) ?_
              refine g_iconst C (v := 2) (by decide) (dk kL_lines 81 rfl) ?_
              obtain ⟨c25, h⟩ := gd_inv h
              refine g_iald C k0 c25 (dk kL_lines 82 rfl) ?_
              refine g_icmp_le C (tgt := 148) (dk kL_lines 83 rfl) (by decide) (fun c26 => ?_) (fun c26 => ?_)
              · replace h := ite_t h c26
                refine g_iconst C (v := 0) (by decide) (dk kL_lines 86 rfl) ?_
                have h9 := Option.some.inj h
                subst h9
                exact kj20
              · replace h := ite_f h c26
                refine g_iconst C (v := 1) (by decide) (dk kL_lines 84 rfl) ?_
                refine g_goto C (tgt := 149) (dk kL_lines 85 rfl) (by decide) ?_
                have h9 := Option.some.inj h
                subst h9
                exact kj20
            · replace h := ite_f h c23
              refine g_aload_n C (i := 0) 3 rfl rfl (dk kL_lines 67 rfl) ?_
              refine g_aload_n C (i := 2) 5 rfl rfl (dk kL_lines 68 rfl) ?_
              refine g_iload C (i := 10) 13 rfl (dk kL_lines 69 rfl) ?_
              obtain ⟨c27, h⟩ := gd_inv h
              refine g_iald C k2 c27 (dk kL_lines 70 rfl) ?_
              obtain ⟨x29, eq28, h⟩ := bd_inv h
              refine g_callS C E (rest := [.int v7]) 2 (ct_L_fade k0 eq28) wd_3_186 mm_L_fade ⟨by decide, by decide, by decide⟩ rfl (by decide) rfl (Nat.le_of_ble_eq_true rfl) (by decide) (dk kL_lines 71 rfl) ?_
              refine g_aload_n C (i := 0) 3 rfl rfl (dk kL_lines 72 rfl) ?_
              refine g_iconst C (v := 5) (by decide) (dk kL_lines 73 rfl) ?_
              obtain ⟨c30, h⟩ := gd_inv h
              refine g_iald C k0 c30 (dk kL_lines 74 rfl) ?_
              refine g_icmp_le C (tgt := 148) (dk kL_lines 75 rfl) (by decide) (fun c31 => ?_) (fun c31 => ?_)
              · replace h := ite_t h c31
                refine g_iconst C (v := 0) (by decide) (dk kL_lines 86 rfl) ?_
                have h9 := Option.some.inj h
                subst h9
                exact kj20
              · replace h := ite_f h c31
                refine g_goto C (tgt := 144) (dk kL_lines 76 rfl) (by decide) ?_
                refine g_iconst C (v := 1) (by decide) (dk kL_lines 84 rfl) ?_
                refine g_goto C (tgt := 149) (dk kL_lines 85 rfl) (by decide) ?_
                have h9 := Option.some.inj h
                subst h9
                exact kj20
        clear h
        have h := hx15
        clear hx15
        refine g_if_eq C (tgt := 102) (dk kL_lines 42 rfl) (by decide) (fun c16 => ?_) (fun c16 => ?_)
        · replace h := ite_t h c16
          refine g_iconst C (v := 0) (by decide) (dk kL_lines 60 rfl) ?_
          have h9 := Option.some.inj h
          subst h9
          exact kj14
        · replace h := ite_f h c16
          refine g_aload C (i := 4) 6 rfl (dk kL_lines 43 rfl) ?_
          refine g_bipush C (v := 10) (by decide) (dk kL_lines 44 rfl) ?_
          refine g_iload C (i := 5) 7 rfl (dk kL_lines 45 rfl) ?_
          refine g_imul C (dk kL_lines 46 rfl) ?_
          refine g_iconst C (v := 2) (by decide) (dk kL_lines 47 rfl) ?_
          refine g_iadd C (dk kL_lines 48 rfl) ?_
          refine g_iload C (i := 9) 11 rfl (dk kL_lines 49 rfl) ?_
          refine g_iadd C (dk kL_lines 50 rfl) ?_
          obtain ⟨c17, h⟩ := gd_inv h
          refine g_iald C k4 c17 (dk kL_lines 51 rfl) ?_
          refine g_iload C (i := 11) 1 rfl (dk kL_lines 52 rfl) ?_
          refine g_ishr C (dk kL_lines 53 rfl) ?_
          refine g_iconst C (v := 1) (by decide) (dk kL_lines 54 rfl) ?_
          refine g_iand C (dk kL_lines 55 rfl) ?_
          refine g_iconst C (v := 1) (by decide) (dk kL_lines 56 rfl) ?_
          refine g_icmp_ne C (tgt := 102) (dk kL_lines 57 rfl) (by decide) (fun c18 => ?_) (fun c18 => ?_)
          · replace h := ite_f h c18
            refine g_iconst C (v := 0) (by decide) (dk kL_lines 60 rfl) ?_
            have h9 := Option.some.inj h
            subst h9
            exact kj14
          · replace h := ite_t h c18
            refine g_iconst C (v := 1) (by decide) (dk kL_lines 58 rfl) ?_
            refine g_goto C (tgt := 103) (dk kL_lines 59 rfl) (by decide) ?_
            have h9 := Option.some.inj h
            subst h9
            exact kj14
      clear h
      have h := hx9
      clear hx9
      refine g_if_lt C (tgt := 68) (dk kL_lines 29 rfl) (by decide) (fun c10 => ?_) (fun c10 => ?_)
      · replace h := ite_t h c10
        refine g_iconst C (v := 0) (by decide) (dk kL_lines 39 rfl) ?_
        have h9 := Option.some.inj h
        subst h9
        exact kj8
      · replace h := ite_f h c10
        refine g_iload C (i := 11) 0 rfl (dk kL_lines 30 rfl) ?_
        refine g_aload C (i := 4) 5 rfl (dk kL_lines 31 rfl) ?_
        refine g_bipush C (v := 10) (by decide) (dk kL_lines 32 rfl) ?_
        refine g_iload C (i := 5) 6 rfl (dk kL_lines 33 rfl) ?_
        refine g_imul C (dk kL_lines 34 rfl) ?_
        obtain ⟨c11, h⟩ := gd_inv h
        refine g_iald C k4 c11 (dk kL_lines 35 rfl) ?_
        refine g_icmp_ge C (tgt := 68) (dk kL_lines 36 rfl) (by decide) (fun c12 => ?_) (fun c12 => ?_)
        · replace h := ite_t h c12
          refine g_iconst C (v := 0) (by decide) (dk kL_lines 39 rfl) ?_
          have h9 := Option.some.inj h
          subst h9
          exact kj8
        · replace h := ite_f h c12
          refine g_iconst C (v := 1) (by decide) (dk kL_lines 37 rfl) ?_
          refine g_goto C (tgt := 69) (dk kL_lines 38 rfl) (by decide) ?_
          have h9 := Option.some.inj h
          subst h9
          exact kj8
set_option maxRecDepth 100000 in
set_option maxHeartbeats 4000000 in
theorem gl_L_lines_21 {l : Launch} {Z : ZZ} {X : XX} (v0 : Nat) (v1 : Nat) (v2 : Nat) (v3 : Nat) (v4 : Nat) (v5 : Int32) (v6 : Int32) (v8 : Int32) (k0 : (zk Z v0).1 = 8) (k1 : (zk Z v1).1 = 8) (k2 : (zk Z v2).1 = 8) (k3 : (zk Z v3).1 = 8) (k4 : (zk Z v4).1 = 8) (C : Cx l Z false X cL_lines RL 15 (some .int)) (E : xR X = rmm 1 0 0) : ∀ (n : Nat) (μ : Mm) (v7 : Int32) (v9 : Int32) (y : Int32 × Mm), f_L_lines_l21 (zk Z) v0 v1 v2 v3 v4 v5 v6 v8 n μ v7 v9 = some y → G Z X 15 0 0 313 [(7, .int y.1)] [] y.2 → G Z X 15 0 0 21 [(0, .ref (za Z v0)), (1, .ref (za Z v1)), (2, .ref (za Z v2)), (3, .ref (za Z v3)), (4, .ref (za Z v4)), (5, .int v5), (6, .int v6), (7, .int v7), (8, .int v8), (9, .int v9)] [] μ := by
  intro n
  induction n with
  | zero => intro μ v7 v9 y h he; unfold f_L_lines_l21 at h; cases h
  | succ n ih =>
    intro μ v7 v9 y h he
    unfold f_L_lines_l21 at h
    refine g_iload C (i := 9) 9 rfl (dk kL_lines 14 rfl) ?_
    refine g_bipush C (v := 6) (by decide) (dk kL_lines 15 rfl) ?_
    refine g_icmp_ge C (tgt := 313) (dk kL_lines 16 rfl) (by decide) (fun c3 => ?_) (fun c3 => ?_)
    · replace h := ite_t h c3
      cases h
      exact g_sub [7] rfl he
    · replace h := ite_f h c3
      refine g_iconst C (v := 0) (by decide) (dk kL_lines 17 rfl) ?_
      refine g_istore C (i := 10) (lv' := [(10, .int 0), (0, .ref (za Z v0)), (1, .ref (za Z v1)), (2, .ref (za Z v2)), (3, .ref (za Z v3)), (4, .ref (za Z v4)), (5, .int v5), (6, .int v6), (7, .int v7), (8, .int v8), (9, .int v9)]) (dk kL_lines 18 rfl) (by decide) rfl ?_
      obtain ⟨q76, eq76, h⟩ := bd_inv h
      refine g_sub [1, 2, 3, 4, 5, 6, 7, 8, 9, 10, 0] (lv' := [(0, .ref (za Z v0)), (1, .ref (za Z v1)), (2, .ref (za Z v2)), (3, .ref (za Z v3)), (4, .ref (za Z v4)), (5, .int v5), (6, .int v6), (7, .int v7), (8, .int v8), (9, .int v9), (10, .int 0)]) rfl ?_
      refine gl_L_lines_31 v0 v1 v2 v3 v4 v5 v6 v8 v9 k0 k1 k2 k3 k4 C E FU μ v7 0 _ eq76 ?_
      obtain ⟨x77, ex77, h⟩ := lt_inv h
      obtain ⟨μ78, eμ78, h⟩ := lt_inv h
      rw [← ex77, ← eμ78]
      refine g_aload_n C (i := 0) 0 rfl rfl (dk kL_lines 180 rfl) ?_
      refine g_bipush C (v := 13) (by decide) (dk kL_lines 181 rfl) ?_
      refine g_dup2 C rfl rfl (dk kL_lines 182 rfl) ?_
      obtain ⟨c79, h⟩ := gd_inv h
      refine g_iald C k0 c79 (dk kL_lines 183 rfl) ?_
      refine g_iconst C (v := 1) (by decide) (dk kL_lines 184 rfl) ?_
      refine g_iadd C (dk kL_lines 185 rfl) ?_
      obtain ⟨c80, h⟩ := gd_inv h
      obtain ⟨μ81, eμ81, h⟩ := lt_inv h
      refine g_iast C k0 c80 eμ81 (dk kL_lines 186 rfl) ?_
      obtain ⟨x82, ex82, h⟩ := lt_inv h
      refine g_iinc C (i := 9) (v := x82) (lv' := [(9, .int x82), (0, .ref (za Z v0)), (1, .ref (za Z v1)), (2, .ref (za Z v2)), (3, .ref (za Z v3)), (4, .ref (za Z v4)), (5, .int v5), (6, .int v6), (7, .int x77), (8, .int v8)]) 9 (dk kL_lines 187 rfl) rfl (by rw [ex82]; rfl) (by decide) rfl ?_
      refine g_goto C (tgt := 21) (dk kL_lines 188 rfl) (by decide) ?_
      exact g_sub [1, 2, 3, 4, 5, 6, 7, 8, 9, 0] rfl (ih μ81 x77 x82 y h he)
set_option maxRecDepth 100000 in
set_option maxHeartbeats 4000000 in
theorem t_L_lines {l : Launch} {Z : ZZ} {X : XX} (μ : Mm) (a0 : Nat) (a1 : Nat) (a2 : Nat) (a3 : Nat) (a4 : Nat) (a5 : Int32) (a6 : Int32) (r : Int32) (μ' : Mm) (k0 : (zk Z a0).1 = 8) (k1 : (zk Z a1).1 = 8) (k2 : (zk Z a2).1 = 8) (k3 : (zk Z a3).1 = 8) (k4 : (zk Z a4).1 = 8) (h : f_L_lines (zk Z) μ a0 a1 a2 a3 a4 a5 a6 = some (r, μ')) (C : Cx l Z false X cL_lines RL 15 (some .int)) (E : Ex Z X 1 0 0 (some (.int r)) Z μ') : G Z X 15 0 0 0 [(0, .ref (za Z a0)), (1, .ref (za Z a1)), (2, .ref (za Z a2)), (3, .ref (za Z a3)), (4, .ref (za Z a4)), (5, .int a5), (6, .int a6)] [] μ := by
  unfold f_L_lines at h
  refine g_iconst C (v := 0) (by decide) (dk kL_lines 0 rfl) ?_
  refine g_istore C (i := 7) (lv' := [(7, .int 0), (0, .ref (za Z a0)), (1, .ref (za Z a1)), (2, .ref (za Z a2)), (3, .ref (za Z a3)), (4, .ref (za Z a4)), (5, .int a5), (6, .int a6)]) (dk kL_lines 1 rfl) (by decide) rfl ?_
  refine g_bipush C (v := 10) (by decide) (dk kL_lines 2 rfl) ?_
  refine g_aload C (i := 4) 5 rfl (dk kL_lines 3 rfl) ?_
  refine g_bipush C (v := 10) (by decide) (dk kL_lines 4 rfl) ?_
  refine g_iload C (i := 5) 6 rfl (dk kL_lines 5 rfl) ?_
  refine g_imul C (dk kL_lines 6 rfl) ?_
  refine g_iconst C (v := 1) (by decide) (dk kL_lines 7 rfl) ?_
  refine g_iadd C (dk kL_lines 8 rfl) ?_
  obtain ⟨c1, h⟩ := gd_inv h
  refine g_iald C k4 c1 (dk kL_lines 9 rfl) ?_
  refine g_imul C (dk kL_lines 10 rfl) ?_
  obtain ⟨x2, ex2, h⟩ := lt_inv h
  refine g_nmi ex2 ?_
  refine g_istore C (i := 8) (lv' := [(8, .int x2), (7, .int 0), (0, .ref (za Z a0)), (1, .ref (za Z a1)), (2, .ref (za Z a2)), (3, .ref (za Z a3)), (4, .ref (za Z a4)), (5, .int a5), (6, .int a6)]) (dk kL_lines 11 rfl) (by decide) rfl ?_
  refine g_iconst C (v := 0) (by decide) (dk kL_lines 12 rfl) ?_
  refine g_istore C (i := 9) (lv' := [(9, .int 0), (8, .int x2), (7, .int 0), (0, .ref (za Z a0)), (1, .ref (za Z a1)), (2, .ref (za Z a2)), (3, .ref (za Z a3)), (4, .ref (za Z a4)), (5, .int a5), (6, .int a6)]) (dk kL_lines 13 rfl) (by decide) rfl ?_
  obtain ⟨q83, eq83, h⟩ := bd_inv h
  refine g_sub [3, 4, 5, 6, 7, 8, 9, 2, 1, 0] (lv' := [(0, .ref (za Z a0)), (1, .ref (za Z a1)), (2, .ref (za Z a2)), (3, .ref (za Z a3)), (4, .ref (za Z a4)), (5, .int a5), (6, .int a6), (7, .int 0), (8, .int x2), (9, .int 0)]) rfl ?_
  refine gl_L_lines_21 a0 a1 a2 a3 a4 a5 a6 x2 k0 k1 k2 k3 k4 C E.2 FU μ 0 0 _ eq83 ?_
  obtain ⟨x84, ex84, h⟩ := lt_inv h
  obtain ⟨μ85, eμ85, h⟩ := lt_inv h
  rw [← ex84, ← eμ85]
  refine g_iload C (i := 7) 0 rfl (dk kL_lines 189 rfl) ?_
  obtain ⟨h8, h9⟩ := Prod.mk.inj (Option.some.inj h)
  subst h8
  subst h9
  exact g_iret C E rfl rfl (by decide) (by decide) (dk kL_lines 190 rfl)
theorem ct_L_lines {l : Launch} {Z : ZZ} {μ : Mm} {a0 : Nat} {a1 : Nat} {a2 : Nat} {a3 : Nat} {a4 : Nat} {a5 : Int32} {a6 : Int32} {r : Int32} {μ' : Mm} (k0 : (zk Z a0).1 = 8) (k1 : (zk Z a1).1 = 8) (k2 : (zk Z a2).1 = 8) (k3 : (zk Z a3).1 = 8) (k4 : (zk Z a4).1 = 8) (h : f_L_lines (zk Z) μ a0 a1 a2 a3 a4 a5 a6 = some (r, μ')) : CtM l Z false yL_lines cL_lines 15 (some .int) 1 0 0 [.ref (za Z a0), .ref (za Z a1), .ref (za Z a2), .ref (za Z a3), .ref (za Z a4), .int a5, .int a6] μ (some (.int r)) Z μ' := ct_of rfl rfl (Nat.le_of_ble_eq_true rfl) (fun X C E => t_L_lines μ a0 a1 a2 a3 a4 a5 a6 r μ' k0 k1 k2 k3 k4 h C E)

def qL_copies : List (Nat × Instr × Nat) := [(0, .iconst 0, 1), (1, .istore_n 2, 1), (2, .iload_n 2, 1), (3, .aload_n 0, 1), (4, .arraylength, 1), (5, .if_icmp .ge 15, 3), (8, .aload_n 1, 1), (9, .iload_n 2, 1), (10, .aload_n 0, 1), (11, .iload_n 2, 1), (12, .iaload, 1), (13, .iastore, 1), (14, .iinc 2 1, 3), (17, .goto (-15), 3), (20, .return_, 1)]
theorem kL_copies : ∀ q ∈ qL_copies, decode cL_copies q.1 = .ok q.2 := by decide +kernel
def f_L_copies_l2 (K : Nat → Nat × Nat) (v0 : Nat) (v1 : Nat) : Nat → Mm → Int32 → Option (Mm)
  | 0, _, _ => none
  | n + 1, μ, v2 => if (Int32.ofNat (K v0).2) ≤ v2 then (some μ) else (gd (inb v2 (K v0).2) <| gd (inb v2 (K v1).2) <| lt1 (sI μ v1 (ix v2) (μ.1 v0 (ix v2))) fun μ4 => lt1 (α := Int32) (v2 + 1) fun x5 => f_L_copies_l2 K v0 v1 n μ4 x5)
def f_L_copies (K : Nat → Nat × Nat) (μ : Mm) (a0 : Nat) (a1 : Nat) : Option (Mm) :=
  bd (f_L_copies_l2 K a0 a1 FU μ 0) fun q6 => lt1 q6 fun μ7 => some (μ7)
set_option maxRecDepth 100000 in
set_option maxHeartbeats 4000000 in
theorem gl_L_copies_2 {l : Launch} {Z : ZZ} {X : XX} (v0 : Nat) (v1 : Nat) (k0 : (zk Z v0).1 = 8) (k1 : (zk Z v1).1 = 8) (C : Cx l Z false X cL_copies RL 3 none) (E : xR X = rmm 0 0 0) : ∀ (n : Nat) (μ : Mm) (v2 : Int32) (y : Mm), f_L_copies_l2 (zk Z) v0 v1 n μ v2 = some y → G Z X 3 0 0 20 [] [] y → G Z X 3 0 0 2 [(0, .ref (za Z v0)), (1, .ref (za Z v1)), (2, .int v2)] [] μ := by
  intro n
  induction n with
  | zero => intro μ v2 y h he; unfold f_L_copies_l2 at h; cases h
  | succ n ih =>
    intro μ v2 y h he
    unfold f_L_copies_l2 at h
    refine g_iload_n C (i := 2) 2 rfl rfl (dk kL_copies 2 rfl) ?_
    refine g_aload_n C (i := 0) 0 rfl rfl (dk kL_copies 3 rfl) ?_
    refine g_alen C k0 (v := Int32.ofNat (zk Z v0).2) rfl (dk kL_copies 4 rfl) ?_
    refine g_icmp_ge C (tgt := 20) (dk kL_copies 5 rfl) (by decide) (fun c1 => ?_) (fun c1 => ?_)
    · replace h := ite_t h c1
      cases h
      exact g_sub [] rfl he
    · replace h := ite_f h c1
      refine g_aload_n C (i := 1) 1 rfl rfl (dk kL_copies 6 rfl) ?_
      refine g_iload_n C (i := 2) 2 rfl rfl (dk kL_copies 7 rfl) ?_
      refine g_aload_n C (i := 0) 0 rfl rfl (dk kL_copies 8 rfl) ?_
      refine g_iload_n C (i := 2) 2 rfl rfl (dk kL_copies 9 rfl) ?_
      obtain ⟨c2, h⟩ := gd_inv h
      refine g_iald C k0 c2 (dk kL_copies 10 rfl) ?_
      obtain ⟨c3, h⟩ := gd_inv h
      obtain ⟨μ4, eμ4, h⟩ := lt_inv h
      refine g_iast C k1 c3 eμ4 (dk kL_copies 11 rfl) ?_
      obtain ⟨x5, ex5, h⟩ := lt_inv h
      refine g_iinc C (i := 2) (v := x5) (lv' := [(2, .int x5), (0, .ref (za Z v0)), (1, .ref (za Z v1))]) 2 (dk kL_copies 12 rfl) rfl (by rw [ex5]; rfl) (by decide) rfl ?_
      refine g_goto C (tgt := 2) (dk kL_copies 13 rfl) (by decide) ?_
      exact g_sub [1, 2, 0] rfl (ih μ4 x5 y h he)
set_option maxRecDepth 100000 in
set_option maxHeartbeats 4000000 in
theorem t_L_copies {l : Launch} {Z : ZZ} {X : XX} (μ : Mm) (a0 : Nat) (a1 : Nat) (μ' : Mm) (k0 : (zk Z a0).1 = 8) (k1 : (zk Z a1).1 = 8) (h : f_L_copies (zk Z) μ a0 a1 = some μ') (C : Cx l Z false X cL_copies RL 3 none) (E : Ex Z X 0 0 0 none Z μ') : G Z X 3 0 0 0 [(0, .ref (za Z a0)), (1, .ref (za Z a1))] [] μ := by
  unfold f_L_copies at h
  refine g_iconst C (v := 0) (by decide) (dk kL_copies 0 rfl) ?_
  refine g_istore_n C (i := 2) (lv' := [(2, .int 0), (0, .ref (za Z a0)), (1, .ref (za Z a1))]) (dk kL_copies 1 rfl) rfl (by decide) rfl ?_
  obtain ⟨q6, eq6, h⟩ := bd_inv h
  refine g_sub [1, 2, 0] (lv' := [(0, .ref (za Z a0)), (1, .ref (za Z a1)), (2, .int 0)]) rfl ?_
  refine gl_L_copies_2 a0 a1 k0 k1 C E.2 FU μ 0 _ eq6 ?_
  obtain ⟨μ7, eμ7, h⟩ := lt_inv h
  rw [← eμ7]
  have h9 := Option.some.inj h
  subst h9
  exact g_vret C E (by decide) (by decide) (dk kL_copies 14 rfl)
theorem ct_L_copies {l : Launch} {Z : ZZ} {μ : Mm} {a0 : Nat} {a1 : Nat} {μ' : Mm} (k0 : (zk Z a0).1 = 8) (k1 : (zk Z a1).1 = 8) (h : f_L_copies (zk Z) μ a0 a1 = some μ') : CtM l Z false yL_copies cL_copies 3 none 0 0 0 [.ref (za Z a0), .ref (za Z a1)] μ none Z μ' := ct_of rfl rfl (Nat.le_of_ble_eq_true rfl) (fun X C E => t_L_copies μ a0 a1 μ' k0 k1 h C E)

def qL_printed : List (Nat × Instr × Nat) := [(0, .aload_n 0, 1), (1, .aload_n 2, 1), (2, .aload 4, 2), (4, .aload 5, 2), (6, .iload 6, 2), (8, .iload 7, 2), (10, .iload 8, 2), (12, .invokestatic 86, 3), (15, .istore 9, 2), (17, .aload_n 0, 1), (18, .aload_n 1, 1), (19, .aload_n 2, 1), (20, .aload_n 3, 1), (21, .aload 4, 2), (23, .iload 7, 2), (25, .iload 8, 2), (27, .invokestatic 74, 3), (30, .istore 10, 2), (32, .iload 10, 2), (34, .aload_n 0, 1), (35, .bipush 6, 2), (37, .iaload, 1), (38, .if_icmp .le 7, 3), (41, .iconst 1, 1), (42, .goto 4, 3), (45, .iconst 0, 1), (46, .istore 11, 2), (48, .aload 5, 2), (50, .bipush 6, 2), (52, .iload 6, 2), (54, .imul, 1), (55, .iconst 2, 1), (56, .iadd, 1), (57, .dup2, 1), (58, .iaload, 1), (59, .iload 9, 2), (61, .iadd, 1), (62, .iastore, 1), (63, .aload 5, 2), (65, .bipush 6, 2), (67, .iload 6, 2), (69, .imul, 1), (70, .iconst 3, 1), (71, .iadd, 1), (72, .dup2, 1), (73, .iaload, 1), (74, .iload 11, 2), (76, .iload 9, 2), (78, .imul, 1), (79, .iadd, 1), (80, .iastore, 1), (81, .aload 5, 2), (83, .bipush 6, 2), (85, .iload 6, 2), (87, .imul, 1), (88, .iconst 4, 1), (89, .iadd, 1), (90, .dup2, 1), (91, .iaload, 1), (92, .iconst 1, 1), (93, .iadd, 1), (94, .iastore, 1), (95, .aload 5, 2), (97, .bipush 6, 2), (99, .iload 6, 2), (101, .imul, 1), (102, .iconst 5, 1), (103, .iadd, 1), (104, .dup2, 1), (105, .iaload, 1), (106, .iload 11, 2), (108, .iadd, 1), (109, .iastore, 1), (110, .aload 4, 2), (112, .bipush 10, 2), (114, .iload 7, 2), (116, .imul, 1), (117, .bipush 8, 2), (119, .iadd, 1), (120, .dup2, 1), (121, .iaload, 1), (122, .iconst 1, 1), (123, .iadd, 1), (124, .iastore, 1), (125, .aload 4, 2), (127, .bipush 10, 2), (129, .iload 7, 2), (131, .imul, 1), (132, .bipush 9, 2), (134, .iadd, 1), (135, .dup2, 1), (136, .iaload, 1), (137, .iload 11, 2), (139, .iadd, 1), (140, .iastore, 1), (141, .aload_n 0, 1), (142, .bipush 11, 2), (144, .dup2, 1), (145, .iaload, 1), (146, .iconst 1, 1), (147, .iadd, 1), (148, .iastore, 1), (149, .aload_n 0, 1), (150, .bipush 12, 2), (152, .dup2, 1), (153, .iaload, 1), (154, .iload 11, 2), (156, .iadd, 1), (157, .iastore, 1), (158, .iload 10, 2), (160, .ireturn, 1)]
theorem kL_printed : ∀ q ∈ qL_printed, decode cL_printed q.1 = .ok q.2 := by decide +kernel
def f_L_printed (K : Nat → Nat × Nat) (μ : Mm) (a0 : Nat) (a1 : Nat) (a2 : Nat) (a3 : Nat) (a4 : Nat) (a5 : Nat) (a6 : Int32) (a7 : Int32) (a8 : Int32) : Option (Int32 × Mm) :=
  bd (f_L_price K μ a0 a2 a4 a5 a6 a7 a8) fun x2 => bd (f_L_lines K μ a0 a1 a2 a3 a4 a7 a8) fun q3 => lt1 q3.1 fun x5 => lt1 q3.2 fun μ4 => gd (inb 6 (K a0).2) <| lt1 (α := Int32) (if x5 ≤ (μ4.1 a0 (ix 6)) then 0 else 1) fun x7 => gd (inb ((6 * a6) + 2) (K a5).2) <| gd (inb ((6 * a6) + 2) (K a5).2) <| lt1 (sI μ4 a5 (ix ((6 * a6) + 2)) ((μ4.1 a5 (ix ((6 * a6) + 2))) + x2)) fun μ11 => gd (inb ((6 * a6) + 3) (K a5).2) <| gd (inb ((6 * a6) + 3) (K a5).2) <| lt1 (sI μ11 a5 (ix ((6 * a6) + 3)) ((μ11.1 a5 (ix ((6 * a6) + 3))) + (x7 * x2))) fun μ14 => gd (inb ((6 * a6) + 4) (K a5).2) <| gd (inb ((6 * a6) + 4) (K a5).2) <| lt1 (sI μ14 a5 (ix ((6 * a6) + 4)) ((μ14.1 a5 (ix ((6 * a6) + 4))) + 1)) fun μ17 => gd (inb ((6 * a6) + 5) (K a5).2) <| gd (inb ((6 * a6) + 5) (K a5).2) <| lt1 (sI μ17 a5 (ix ((6 * a6) + 5)) ((μ17.1 a5 (ix ((6 * a6) + 5))) + x7)) fun μ20 => gd (inb ((10 * a7) + 8) (K a4).2) <| gd (inb ((10 * a7) + 8) (K a4).2) <| lt1 (sI μ20 a4 (ix ((10 * a7) + 8)) ((μ20.1 a4 (ix ((10 * a7) + 8))) + 1)) fun μ23 => gd (inb ((10 * a7) + 9) (K a4).2) <| gd (inb ((10 * a7) + 9) (K a4).2) <| lt1 (sI μ23 a4 (ix ((10 * a7) + 9)) ((μ23.1 a4 (ix ((10 * a7) + 9))) + x7)) fun μ26 => gd (inb 11 (K a0).2) <| gd (inb 11 (K a0).2) <| lt1 (sI μ26 a0 (ix 11) ((μ26.1 a0 (ix 11)) + 1)) fun μ29 => gd (inb 12 (K a0).2) <| gd (inb 12 (K a0).2) <| lt1 (sI μ29 a0 (ix 12) ((μ29.1 a0 (ix 12)) + x7)) fun μ32 => some (x5, μ32)
set_option maxRecDepth 100000 in
set_option maxHeartbeats 4000000 in
theorem t_L_printed {l : Launch} {Z : ZZ} {X : XX} (μ : Mm) (a0 : Nat) (a1 : Nat) (a2 : Nat) (a3 : Nat) (a4 : Nat) (a5 : Nat) (a6 : Int32) (a7 : Int32) (a8 : Int32) (r : Int32) (μ' : Mm) (k0 : (zk Z a0).1 = 8) (k1 : (zk Z a1).1 = 8) (k2 : (zk Z a2).1 = 8) (k3 : (zk Z a3).1 = 8) (k4 : (zk Z a4).1 = 8) (k5 : (zk Z a5).1 = 8) (h : f_L_printed (zk Z) μ a0 a1 a2 a3 a4 a5 a6 a7 a8 = some (r, μ')) (C : Cx l Z false X cL_printed RL 12 (some .int)) (E : Ex Z X 2 0 0 (some (.int r)) Z μ') : G Z X 12 0 0 0 [(0, .ref (za Z a0)), (1, .ref (za Z a1)), (2, .ref (za Z a2)), (3, .ref (za Z a3)), (4, .ref (za Z a4)), (5, .ref (za Z a5)), (6, .int a6), (7, .int a7), (8, .int a8)] [] μ := by
  unfold f_L_printed at h
  refine g_aload_n C (i := 0) 0 rfl rfl (dk kL_printed 0 rfl) ?_
  refine g_aload_n C (i := 2) 2 rfl rfl (dk kL_printed 1 rfl) ?_
  refine g_aload C (i := 4) 4 rfl (dk kL_printed 2 rfl) ?_
  refine g_aload C (i := 5) 5 rfl (dk kL_printed 3 rfl) ?_
  refine g_iload C (i := 6) 6 rfl (dk kL_printed 4 rfl) ?_
  refine g_iload C (i := 7) 7 rfl (dk kL_printed 5 rfl) ?_
  refine g_iload C (i := 8) 8 rfl (dk kL_printed 6 rfl) ?_
  obtain ⟨x2, eq1, h⟩ := bd_inv h
  refine g_callS C E.2 (rest := []) 7 (ct_L_price k0 k2 k4 k5 eq1) wd_3_189 mm_L_price ⟨by decide, by decide, by decide⟩ rfl (by decide) rfl (Nat.le_of_ble_eq_true rfl) (by decide) (dk kL_printed 7 rfl) ?_
  refine g_istore C (i := 9) (lv' := [(9, .int x2), (0, .ref (za Z a0)), (1, .ref (za Z a1)), (2, .ref (za Z a2)), (3, .ref (za Z a3)), (4, .ref (za Z a4)), (5, .ref (za Z a5)), (6, .int a6), (7, .int a7), (8, .int a8)]) (dk kL_printed 8 rfl) (by decide) rfl ?_
  refine g_aload_n C (i := 0) 1 rfl rfl (dk kL_printed 9 rfl) ?_
  refine g_aload_n C (i := 1) 2 rfl rfl (dk kL_printed 10 rfl) ?_
  refine g_aload_n C (i := 2) 3 rfl rfl (dk kL_printed 11 rfl) ?_
  refine g_aload_n C (i := 3) 4 rfl rfl (dk kL_printed 12 rfl) ?_
  refine g_aload C (i := 4) 5 rfl (dk kL_printed 13 rfl) ?_
  refine g_iload C (i := 7) 8 rfl (dk kL_printed 14 rfl) ?_
  refine g_iload C (i := 8) 9 rfl (dk kL_printed 15 rfl) ?_
  obtain ⟨q3, eq3, h⟩ := bd_inv h
  obtain ⟨x5, ex5, h⟩ := lt_inv h
  obtain ⟨μ4, eμ4, h⟩ := lt_inv h
  rw [show q3 = (x5, μ4) from by rw [ex5, eμ4]] at eq3
  refine g_callS C E.2 (rest := []) 7 (ct_L_lines k0 k1 k2 k3 k4 eq3) wd_3_183 mm_L_lines ⟨by decide, by decide, by decide⟩ rfl (by decide) rfl (Nat.le_of_ble_eq_true rfl) (by decide) (dk kL_printed 16 rfl) ?_
  refine g_istore C (i := 10) (lv' := [(10, .int x5), (9, .int x2), (0, .ref (za Z a0)), (1, .ref (za Z a1)), (2, .ref (za Z a2)), (3, .ref (za Z a3)), (4, .ref (za Z a4)), (5, .ref (za Z a5)), (6, .int a6), (7, .int a7), (8, .int a8)]) (dk kL_printed 17 rfl) (by decide) rfl ?_
  refine g_iload C (i := 10) 0 rfl (dk kL_printed 18 rfl) ?_
  refine g_aload_n C (i := 0) 2 rfl rfl (dk kL_printed 19 rfl) ?_
  refine g_bipush C (v := 6) (by decide) (dk kL_printed 20 rfl) ?_
  obtain ⟨c6, h⟩ := gd_inv h
  refine g_iald C k0 c6 (dk kL_printed 21 rfl) ?_
  obtain ⟨x7, ex7, h⟩ := lt_inv h
  have kj8 : G Z X 12 0 0 46 [(10, .int x5), (9, .int x2), (0, .ref (za Z a0)), (1, .ref (za Z a1)), (2, .ref (za Z a2)), (3, .ref (za Z a3)), (4, .ref (za Z a4)), (5, .ref (za Z a5)), (6, .int a6), (7, .int a7), (8, .int a8)] [.int x7] μ4 := by
    refine g_istore C (i := 11) (lv' := [(11, .int x7), (10, .int x5), (9, .int x2), (0, .ref (za Z a0)), (1, .ref (za Z a1)), (2, .ref (za Z a2)), (3, .ref (za Z a3)), (4, .ref (za Z a4)), (5, .ref (za Z a5)), (6, .int a6), (7, .int a7), (8, .int a8)]) (dk kL_printed 26 rfl) (by decide) rfl ?_
    refine g_aload C (i := 5) 8 rfl (dk kL_printed 27 rfl) ?_
    refine g_bipush C (v := 6) (by decide) (dk kL_printed 28 rfl) ?_
    refine g_iload C (i := 6) 9 rfl (dk kL_printed 29 rfl) ?_
    refine g_imul C (dk kL_printed 30 rfl) ?_
    refine g_iconst C (v := 2) (by decide) (dk kL_printed 31 rfl) ?_
    refine g_iadd C (dk kL_printed 32 rfl) ?_
    refine g_dup2 C rfl rfl (dk kL_printed 33 rfl) ?_
    obtain ⟨c9, h⟩ := gd_inv h
    refine g_iald C k5 c9 (dk kL_printed 34 rfl) ?_
    refine g_iload C (i := 9) 2 rfl (dk kL_printed 35 rfl) ?_
    refine g_iadd C (dk kL_printed 36 rfl) ?_
    obtain ⟨c10, h⟩ := gd_inv h
    obtain ⟨μ11, eμ11, h⟩ := lt_inv h
    refine g_iast C k5 c10 eμ11 (dk kL_printed 37 rfl) ?_
    refine g_aload C (i := 5) 8 rfl (dk kL_printed 38 rfl) ?_
    refine g_bipush C (v := 6) (by decide) (dk kL_printed 39 rfl) ?_
    refine g_iload C (i := 6) 9 rfl (dk kL_printed 40 rfl) ?_
    refine g_imul C (dk kL_printed 41 rfl) ?_
    refine g_iconst C (v := 3) (by decide) (dk kL_printed 42 rfl) ?_
    refine g_iadd C (dk kL_printed 43 rfl) ?_
    refine g_dup2 C rfl rfl (dk kL_printed 44 rfl) ?_
    obtain ⟨c12, h⟩ := gd_inv h
    refine g_iald C k5 c12 (dk kL_printed 45 rfl) ?_
    refine g_iload C (i := 11) 0 rfl (dk kL_printed 46 rfl) ?_
    refine g_iload C (i := 9) 2 rfl (dk kL_printed 47 rfl) ?_
    refine g_imul C (dk kL_printed 48 rfl) ?_
    refine g_iadd C (dk kL_printed 49 rfl) ?_
    obtain ⟨c13, h⟩ := gd_inv h
    obtain ⟨μ14, eμ14, h⟩ := lt_inv h
    refine g_iast C k5 c13 eμ14 (dk kL_printed 50 rfl) ?_
    refine g_aload C (i := 5) 8 rfl (dk kL_printed 51 rfl) ?_
    refine g_bipush C (v := 6) (by decide) (dk kL_printed 52 rfl) ?_
    refine g_iload C (i := 6) 9 rfl (dk kL_printed 53 rfl) ?_
    refine g_imul C (dk kL_printed 54 rfl) ?_
    refine g_iconst C (v := 4) (by decide) (dk kL_printed 55 rfl) ?_
    refine g_iadd C (dk kL_printed 56 rfl) ?_
    refine g_dup2 C rfl rfl (dk kL_printed 57 rfl) ?_
    obtain ⟨c15, h⟩ := gd_inv h
    refine g_iald C k5 c15 (dk kL_printed 58 rfl) ?_
    refine g_iconst C (v := 1) (by decide) (dk kL_printed 59 rfl) ?_
    refine g_iadd C (dk kL_printed 60 rfl) ?_
    obtain ⟨c16, h⟩ := gd_inv h
    obtain ⟨μ17, eμ17, h⟩ := lt_inv h
    refine g_iast C k5 c16 eμ17 (dk kL_printed 61 rfl) ?_
    refine g_aload C (i := 5) 8 rfl (dk kL_printed 62 rfl) ?_
    refine g_bipush C (v := 6) (by decide) (dk kL_printed 63 rfl) ?_
    refine g_iload C (i := 6) 9 rfl (dk kL_printed 64 rfl) ?_
    refine g_imul C (dk kL_printed 65 rfl) ?_
    refine g_iconst C (v := 5) (by decide) (dk kL_printed 66 rfl) ?_
    refine g_iadd C (dk kL_printed 67 rfl) ?_
    refine g_dup2 C rfl rfl (dk kL_printed 68 rfl) ?_
    obtain ⟨c18, h⟩ := gd_inv h
    refine g_iald C k5 c18 (dk kL_printed 69 rfl) ?_
    refine g_iload C (i := 11) 0 rfl (dk kL_printed 70 rfl) ?_
    refine g_iadd C (dk kL_printed 71 rfl) ?_
    obtain ⟨c19, h⟩ := gd_inv h
    obtain ⟨μ20, eμ20, h⟩ := lt_inv h
    refine g_iast C k5 c19 eμ20 (dk kL_printed 72 rfl) ?_
    refine g_aload C (i := 4) 7 rfl (dk kL_printed 73 rfl) ?_
    refine g_bipush C (v := 10) (by decide) (dk kL_printed 74 rfl) ?_
    refine g_iload C (i := 7) 10 rfl (dk kL_printed 75 rfl) ?_
    refine g_imul C (dk kL_printed 76 rfl) ?_
    refine g_bipush C (v := 8) (by decide) (dk kL_printed 77 rfl) ?_
    refine g_iadd C (dk kL_printed 78 rfl) ?_
    refine g_dup2 C rfl rfl (dk kL_printed 79 rfl) ?_
    obtain ⟨c21, h⟩ := gd_inv h
    refine g_iald C k4 c21 (dk kL_printed 80 rfl) ?_
    refine g_iconst C (v := 1) (by decide) (dk kL_printed 81 rfl) ?_
    refine g_iadd C (dk kL_printed 82 rfl) ?_
    obtain ⟨c22, h⟩ := gd_inv h
    obtain ⟨μ23, eμ23, h⟩ := lt_inv h
    refine g_iast C k4 c22 eμ23 (dk kL_printed 83 rfl) ?_
    refine g_aload C (i := 4) 7 rfl (dk kL_printed 84 rfl) ?_
    refine g_bipush C (v := 10) (by decide) (dk kL_printed 85 rfl) ?_
    refine g_iload C (i := 7) 10 rfl (dk kL_printed 86 rfl) ?_
    refine g_imul C (dk kL_printed 87 rfl) ?_
    refine g_bipush C (v := 9) (by decide) (dk kL_printed 88 rfl) ?_
    refine g_iadd C (dk kL_printed 89 rfl) ?_
    refine g_dup2 C rfl rfl (dk kL_printed 90 rfl) ?_
    obtain ⟨c24, h⟩ := gd_inv h
    refine g_iald C k4 c24 (dk kL_printed 91 rfl) ?_
    refine g_iload C (i := 11) 0 rfl (dk kL_printed 92 rfl) ?_
    refine g_iadd C (dk kL_printed 93 rfl) ?_
    obtain ⟨c25, h⟩ := gd_inv h
    obtain ⟨μ26, eμ26, h⟩ := lt_inv h
    refine g_iast C k4 c25 eμ26 (dk kL_printed 94 rfl) ?_
    refine g_aload_n C (i := 0) 3 rfl rfl (dk kL_printed 95 rfl) ?_
    refine g_bipush C (v := 11) (by decide) (dk kL_printed 96 rfl) ?_
    refine g_dup2 C rfl rfl (dk kL_printed 97 rfl) ?_
    obtain ⟨c27, h⟩ := gd_inv h
    refine g_iald C k0 c27 (dk kL_printed 98 rfl) ?_
    refine g_iconst C (v := 1) (by decide) (dk kL_printed 99 rfl) ?_
    refine g_iadd C (dk kL_printed 100 rfl) ?_
    obtain ⟨c28, h⟩ := gd_inv h
    obtain ⟨μ29, eμ29, h⟩ := lt_inv h
    refine g_iast C k0 c28 eμ29 (dk kL_printed 101 rfl) ?_
    refine g_aload_n C (i := 0) 3 rfl rfl (dk kL_printed 102 rfl) ?_
    refine g_bipush C (v := 12) (by decide) (dk kL_printed 103 rfl) ?_
    refine g_dup2 C rfl rfl (dk kL_printed 104 rfl) ?_
    obtain ⟨c30, h⟩ := gd_inv h
    refine g_iald C k0 c30 (dk kL_printed 105 rfl) ?_
    refine g_iload C (i := 11) 0 rfl (dk kL_printed 106 rfl) ?_
    refine g_iadd C (dk kL_printed 107 rfl) ?_
    obtain ⟨c31, h⟩ := gd_inv h
    obtain ⟨μ32, eμ32, h⟩ := lt_inv h
    refine g_iast C k0 c31 eμ32 (dk kL_printed 108 rfl) ?_
    refine g_iload C (i := 10) 1 rfl (dk kL_printed 109 rfl) ?_
    obtain ⟨h8, h9⟩ := Prod.mk.inj (Option.some.inj h)
    subst h8
    subst h9
    exact g_iret C E rfl rfl (by decide) (by decide) (dk kL_printed 110 rfl)
  clear h
  refine g_icmp_le C (tgt := 45) (dk kL_printed 22 rfl) (by decide) (fun c33 => ?_) (fun c33 => ?_)
  · refine g_iconst C (v := 0) (by decide) (dk kL_printed 25 rfl) ?_
    exact g_nmi (by rw [ex7, if_pos c33]) kj8
  · refine g_iconst C (v := 1) (by decide) (dk kL_printed 23 rfl) ?_
    refine g_goto C (tgt := 46) (dk kL_printed 24 rfl) (by decide) ?_
    exact g_nmi (by rw [ex7, if_neg c33]) kj8
theorem ct_L_printed {l : Launch} {Z : ZZ} {μ : Mm} {a0 : Nat} {a1 : Nat} {a2 : Nat} {a3 : Nat} {a4 : Nat} {a5 : Nat} {a6 : Int32} {a7 : Int32} {a8 : Int32} {r : Int32} {μ' : Mm} (k0 : (zk Z a0).1 = 8) (k1 : (zk Z a1).1 = 8) (k2 : (zk Z a2).1 = 8) (k3 : (zk Z a3).1 = 8) (k4 : (zk Z a4).1 = 8) (k5 : (zk Z a5).1 = 8) (h : f_L_printed (zk Z) μ a0 a1 a2 a3 a4 a5 a6 a7 a8 = some (r, μ')) : CtM l Z false yL_printed cL_printed 12 (some .int) 2 0 0 [.ref (za Z a0), .ref (za Z a1), .ref (za Z a2), .ref (za Z a3), .ref (za Z a4), .ref (za Z a5), .int a6, .int a7, .int a8] μ (some (.int r)) Z μ' := ct_of rfl rfl (Nat.le_of_ble_eq_true rfl) (fun X C E => t_L_printed μ a0 a1 a2 a3 a4 a5 a6 a7 a8 r μ' k0 k1 k2 k3 k4 k5 h C E)

def qL_rented : List (Nat × Instr × Nat) := [(0, .iconst 0, 1), (1, .istore_n 2, 1), (2, .iconst 0, 1), (3, .istore_n 3, 1), (4, .iload_n 3, 1), (5, .aload_n 0, 1), (6, .bipush 9, 2), (8, .iaload, 1), (9, .if_icmp .ge 42, 3), (12, .iload_n 2, 1), (13, .aload_n 1, 1), (14, .bipush 6, 2), (16, .iload_n 3, 1), (17, .imul, 1), (18, .iaload, 1), (19, .ifCond .ge 7, 3), (22, .iconst 0, 1), (23, .goto 20, 3), (26, .aload_n 1, 1), (27, .bipush 6, 2), (29, .iload_n 3, 1), (30, .imul, 1), (31, .iconst 1, 1), (32, .iadd, 1), (33, .iaload, 1), (34, .aload_n 1, 1), (35, .bipush 6, 2), (37, .iload_n 3, 1), (38, .imul, 1), (39, .iaload, 1), (40, .isub, 1), (41, .iconst 1, 1), (42, .iadd, 1), (43, .iadd, 1), (44, .istore_n 2, 1), (45, .iinc 3 1, 3), (48, .goto (-44), 3), (51, .iload_n 2, 1), (52, .ireturn, 1)]
theorem kL_rented : ∀ q ∈ qL_rented, decode cL_rented q.1 = .ok q.2 := by decide +kernel
def f_L_rented_l4 (K : Nat → Nat × Nat) (μ : Mm) (v0 : Nat) (v1 : Nat) : Nat → Int32 → Int32 → Option (Int32)
  | 0, _, _ => none
  | n + 1, v2, v3 => gd (inb 9 (K v0).2) <| if (μ.1 v0 (ix 9)) ≤ v3 then (some v2) else (gd (inb (6 * v3) (K v1).2) <| bd (α := Int32) (if 0 ≤ (μ.1 v1 (ix (6 * v3))) then (gd (inb ((6 * v3) + 1) (K v1).2) <| gd (inb (6 * v3) (K v1).2) <| some (((μ.1 v1 (ix ((6 * v3) + 1))) - (μ.1 v1 (ix (6 * v3)))) + 1)) else (some 0)) fun x4 => lt1 (α := Int32) (v2 + x4) fun x10 => lt1 (α := Int32) (v3 + 1) fun x11 => f_L_rented_l4 K μ v0 v1 n x10 x11)
def f_L_rented (K : Nat → Nat × Nat) (μ : Mm) (a0 : Nat) (a1 : Nat) : Option (Int32) :=
  bd (f_L_rented_l4 K μ a0 a1 FU 0 0) fun q12 => lt1 q12 fun x13 => some x13
set_option maxRecDepth 100000 in
set_option maxHeartbeats 4000000 in
theorem gl_L_rented_4 {l : Launch} {Z : ZZ} {X : XX} (v0 : Nat) (v1 : Nat) (k0 : (zk Z v0).1 = 8) (k1 : (zk Z v1).1 = 8) (μ : Mm) (C : Cx l Z false X cL_rented RL 4 (some .int)) (E : xR X = rmm 0 0 0) : ∀ (n : Nat) (v2 : Int32) (v3 : Int32) (y : Int32), f_L_rented_l4 (zk Z) μ v0 v1 n v2 v3 = some y → G Z X 4 0 0 51 [(2, .int y)] [] (μ) → G Z X 4 0 0 4 [(0, .ref (za Z v0)), (1, .ref (za Z v1)), (2, .int v2), (3, .int v3)] [] μ := by
  intro n
  induction n with
  | zero => intro v2 v3 y h he; unfold f_L_rented_l4 at h; cases h
  | succ n ih =>
    intro v2 v3 y h he
    unfold f_L_rented_l4 at h
    refine g_iload_n C (i := 3) 3 rfl rfl (dk kL_rented 4 rfl) ?_
    refine g_aload_n C (i := 0) 0 rfl rfl (dk kL_rented 5 rfl) ?_
    refine g_bipush C (v := 9) (by decide) (dk kL_rented 6 rfl) ?_
    obtain ⟨c1, h⟩ := gd_inv h
    refine g_iald C k0 c1 (dk kL_rented 7 rfl) ?_
    refine g_icmp_ge C (tgt := 51) (dk kL_rented 8 rfl) (by decide) (fun c2 => ?_) (fun c2 => ?_)
    · replace h := ite_t h c2
      cases h
      exact g_sub [2] rfl he
    · replace h := ite_f h c2
      refine g_iload_n C (i := 2) 2 rfl rfl (dk kL_rented 9 rfl) ?_
      refine g_aload_n C (i := 1) 1 rfl rfl (dk kL_rented 10 rfl) ?_
      refine g_bipush C (v := 6) (by decide) (dk kL_rented 11 rfl) ?_
      refine g_iload_n C (i := 3) 3 rfl rfl (dk kL_rented 12 rfl) ?_
      refine g_imul C (dk kL_rented 13 rfl) ?_
      obtain ⟨c3, h⟩ := gd_inv h
      refine g_iald C k1 c3 (dk kL_rented 14 rfl) ?_
      obtain ⟨x4, hx6, h⟩ := bd_inv h
      have kj5 : G Z X 4 0 0 43 [(0, .ref (za Z v0)), (1, .ref (za Z v1)), (2, .int v2), (3, .int v3)] [.int x4, .int v2] μ := by
        refine g_iadd C (dk kL_rented 33 rfl) ?_
        obtain ⟨x10, ex10, h⟩ := lt_inv h
        refine g_nmi ex10 ?_
        refine g_istore_n C (i := 2) (lv' := [(2, .int x10), (0, .ref (za Z v0)), (1, .ref (za Z v1)), (3, .int v3)]) (dk kL_rented 34 rfl) rfl (by decide) rfl ?_
        obtain ⟨x11, ex11, h⟩ := lt_inv h
        refine g_iinc C (i := 3) (v := x11) (lv' := [(3, .int x11), (2, .int x10), (0, .ref (za Z v0)), (1, .ref (za Z v1))]) 3 (dk kL_rented 35 rfl) rfl (by rw [ex11]; rfl) (by decide) rfl ?_
        refine g_goto C (tgt := 4) (dk kL_rented 36 rfl) (by decide) ?_
        exact g_sub [2, 3, 1, 0] rfl (ih x10 x11 y h he)
      clear h
      have h := hx6
      clear hx6
      refine g_if_ge C (tgt := 26) (dk kL_rented 15 rfl) (by decide) (fun c7 => ?_) (fun c7 => ?_)
      · replace h := ite_t h c7
        refine g_aload_n C (i := 1) 1 rfl rfl (dk kL_rented 18 rfl) ?_
        refine g_bipush C (v := 6) (by decide) (dk kL_rented 19 rfl) ?_
        refine g_iload_n C (i := 3) 3 rfl rfl (dk kL_rented 20 rfl) ?_
        refine g_imul C (dk kL_rented 21 rfl) ?_
        refine g_iconst C (v := 1) (by decide) (dk kL_rented 22 rfl) ?_
        refine g_iadd C (dk kL_rented 23 rfl) ?_
        obtain ⟨c8, h⟩ := gd_inv h
        refine g_iald C k1 c8 (dk kL_rented 24 rfl) ?_
        refine g_aload_n C (i := 1) 1 rfl rfl (dk kL_rented 25 rfl) ?_
        refine g_bipush C (v := 6) (by decide) (dk kL_rented 26 rfl) ?_
        refine g_iload_n C (i := 3) 3 rfl rfl (dk kL_rented 27 rfl) ?_
        refine g_imul C (dk kL_rented 28 rfl) ?_
        obtain ⟨c9, h⟩ := gd_inv h
        refine g_iald C k1 c9 (dk kL_rented 29 rfl) ?_
        refine g_isub C (dk kL_rented 30 rfl) ?_
        refine g_iconst C (v := 1) (by decide) (dk kL_rented 31 rfl) ?_
        refine g_iadd C (dk kL_rented 32 rfl) ?_
        have h9 := Option.some.inj h
        subst h9
        exact kj5
      · replace h := ite_f h c7
        refine g_iconst C (v := 0) (by decide) (dk kL_rented 16 rfl) ?_
        refine g_goto C (tgt := 43) (dk kL_rented 17 rfl) (by decide) ?_
        have h9 := Option.some.inj h
        subst h9
        exact kj5
set_option maxRecDepth 100000 in
set_option maxHeartbeats 4000000 in
theorem t_L_rented {l : Launch} {Z : ZZ} {X : XX} (μ : Mm) (a0 : Nat) (a1 : Nat) (r : Int32) (k0 : (zk Z a0).1 = 8) (k1 : (zk Z a1).1 = 8) (h : f_L_rented (zk Z) μ a0 a1 = some r) (C : Cx l Z false X cL_rented RL 4 (some .int)) (E : Ex Z X 0 0 0 (some (.int r)) Z μ) : G Z X 4 0 0 0 [(0, .ref (za Z a0)), (1, .ref (za Z a1))] [] μ := by
  unfold f_L_rented at h
  refine g_iconst C (v := 0) (by decide) (dk kL_rented 0 rfl) ?_
  refine g_istore_n C (i := 2) (lv' := [(2, .int 0), (0, .ref (za Z a0)), (1, .ref (za Z a1))]) (dk kL_rented 1 rfl) rfl (by decide) rfl ?_
  refine g_iconst C (v := 0) (by decide) (dk kL_rented 2 rfl) ?_
  refine g_istore_n C (i := 3) (lv' := [(3, .int 0), (2, .int 0), (0, .ref (za Z a0)), (1, .ref (za Z a1))]) (dk kL_rented 3 rfl) rfl (by decide) rfl ?_
  obtain ⟨q12, eq12, h⟩ := bd_inv h
  refine g_sub [2, 3, 1, 0] (lv' := [(0, .ref (za Z a0)), (1, .ref (za Z a1)), (2, .int 0), (3, .int 0)]) rfl ?_
  refine gl_L_rented_4 a0 a1 k0 k1 μ C E.2 FU 0 0 _ eq12 ?_
  obtain ⟨x13, ex13, h⟩ := lt_inv h
  rw [← ex13]
  refine g_iload_n C (i := 2) 0 rfl rfl (dk kL_rented 37 rfl) ?_
  have h9 := Option.some.inj h
  subst h9
  exact g_iret C E rfl rfl (by decide) (by decide) (dk kL_rented 38 rfl)
theorem ct_L_rented {l : Launch} {Z : ZZ} {μ : Mm} {a0 : Nat} {a1 : Nat} {r : Int32} (k0 : (zk Z a0).1 = 8) (k1 : (zk Z a1).1 = 8) (h : f_L_rented (zk Z) μ a0 a1 = some r) : CtM l Z false yL_rented cL_rented 4 (some .int) 0 0 0 [.ref (za Z a0), .ref (za Z a1)] μ (some (.int r)) Z μ := ct_of rfl rfl (Nat.le_of_ble_eq_true rfl) (fun X C E => t_L_rented μ a0 a1 r k0 k1 h C E)
