def qX8_throwsAt : List (Nat × Instr × Nat) := [(0, .aload_n 0, 1), (1, .iload_n 1, 1), (2, .putfield 25, 3), (5, .iload_n 1, 1), (6, .ifCond .le 7, 3), (9, .iconst 1, 1), (10, .goto 4, 3), (13, .iconst 0, 1), (14, .ireturn, 1)]
theorem kX8_throwsAt : ∀ q ∈ qX8_throwsAt, decode cX8_throwsAt q.1 = .ok q.2 := by decide +kernel
def f_X8_throwsAt (K : Nat → Nat × Nat) (μ : Mm) (a0 : Nat) (a1 : Int32) : Option (Int32 × Mm) :=
  lt1 (sI μ a0 7 a1) fun μ1 => lt1 (α := Int32) (if a1 ≤ 0 then 0 else 1) fun x2 => gd (x2 = 0 ∨ x2 = 1) <| some (x2, μ1)
set_option maxRecDepth 100000 in
set_option maxHeartbeats 4000000 in
theorem t_X8_throwsAt {l : Launch} {Z : ZZ} {X : XX} (μ : Mm) (a0 : Nat) (a1 : Int32) (r : Int32) (μ' : Mm) (k0 : (zk Z a0).1 = 6) (h : f_X8_throwsAt (zk Z) μ a0 a1 = some (r, μ')) (C : Cx l Z false X cX8_throwsAt RX8 2 (some .boolean)) (E : Ex Z X 0 0 0 (some (.int r)) Z μ') : G Z X 2 0 0 0 [(0, .ref (za Z a0)), (1, .int a1)] [] μ := by
  unfold f_X8_throwsAt at h
  refine g_aload_n C (i := 0) 0 rfl rfl (dk kX8_throwsAt 0 rfl) ?_
  refine g_iload_n C (i := 1) 1 rfl rfl (dk kX8_throwsAt 1 rfl) ?_
  obtain ⟨μ1, eμ1, h⟩ := lt_inv h
  refine pI_6_7 C k0 (C.w wd_5_10) eμ1 (dk kX8_throwsAt 2 rfl) ?_
  refine g_iload_n C (i := 1) 1 rfl rfl (dk kX8_throwsAt 3 rfl) ?_
  obtain ⟨x2, ex2, h⟩ := lt_inv h
  have kj3 : G Z X 2 0 0 14 [(0, .ref (za Z a0)), (1, .int a1)] [.int x2] μ1 := by
    obtain ⟨c4, h⟩ := gd_inv h
    obtain ⟨h8, h9⟩ := Prod.mk.inj (Option.some.inj h)
    subst h8
    subst h9
    exact g_iret C E rfl (br0 _ c4) (Nat.le_refl 0) (Nat.le_refl 0) (dk kX8_throwsAt 8 rfl)
  clear h
  refine g_if_le C (tgt := 13) (dk kX8_throwsAt 4 rfl) (by decide) (fun c5 => ?_) (fun c5 => ?_)
  · refine g_iconst C (v := 0) (by decide) (dk kX8_throwsAt 7 rfl) ?_
    exact g_nmi (by rw [ex2, if_pos c5]) kj3
  · refine g_iconst C (v := 1) (by decide) (dk kX8_throwsAt 5 rfl) ?_
    refine g_goto C (tgt := 14) (dk kX8_throwsAt 6 rfl) (by decide) ?_
    exact g_nmi (by rw [ex2, if_neg c5]) kj3
theorem ct_X8_throwsAt {l : Launch} {Z : ZZ} {μ : Mm} {a0 : Nat} {a1 : Int32} {r : Int32} {μ' : Mm} (k0 : (zk Z a0).1 = 6) (h : f_X8_throwsAt (zk Z) μ a0 a1 = some (r, μ')) : CtM l Z false yX8_throwsAt cX8_throwsAt 2 (some .boolean) 0 0 0 [.ref (za Z a0), .int a1] μ (some (.int r)) Z μ' := ct_of rfl rfl (Nat.le_of_ble_eq_true rfl) (fun X C E => t_X8_throwsAt μ a0 a1 r μ' k0 h C E)

def qX8_saves : List (Nat × Instr × Nat) := [(0, .aload_n 0, 1), (1, .getfield 29, 3), (4, .ifCond .eq 4, 3), (7, .return_, 1), (8, .aload_n 0, 1), (9, .getfield 33, 3), (12, .iconst 4, 1), (13, .if_icmp .ne 44, 3), (16, .iconst 0, 1), (17, .istore_n 1, 1), (18, .iload_n 1, 1), (19, .sipush 546, 3), (22, .if_icmp .ge 25, 3), (25, .aload_n 0, 1), (26, .getfield 16, 3), (29, .iload_n 1, 1), (30, .aload_n 0, 1), (31, .getfield 16, 3), (34, .iload_n 1, 1), (35, .sipush 182, 3), (38, .iadd, 1), (39, .iaload, 1), (40, .iastore, 1), (41, .iinc 1 1, 3), (44, .goto (-26), 3), (47, .aload_n 0, 1), (48, .dup, 1), (49, .getfield 33, 3), (52, .iconst 1, 1), (53, .isub, 1), (54, .putfield 33, 3), (57, .iconst 0, 1), (58, .istore_n 1, 1), (59, .iload_n 1, 1), (60, .sipush 182, 3), (63, .if_icmp .ge 30, 3), (66, .aload_n 0, 1), (67, .getfield 16, 3), (70, .sipush 182, 3), (73, .aload_n 0, 1), (74, .getfield 33, 3), (77, .imul, 1), (78, .iload_n 1, 1), (79, .iadd, 1), (80, .aload_n 0, 1), (81, .getfield 7, 3), (84, .iload_n 1, 1), (85, .iaload, 1), (86, .iastore, 1), (87, .iinc 1 1, 3), (90, .goto (-31), 3), (93, .aload_n 0, 1), (94, .dup, 1), (95, .getfield 33, 3), (98, .iconst 1, 1), (99, .iadd, 1), (100, .putfield 33, 3), (103, .return_, 1)]
theorem kX8_saves : ∀ q ∈ qX8_saves, decode cX8_saves q.1 = .ok q.2 := by decide +kernel
def f_X8_saves_l59 (K : Nat → Nat × Nat) (v0 : Nat) : Nat → Mm → Int32 → Option (Mm)
  | 0, _, _ => none
  | n + 1, μ, v1 => if 182 ≤ v1 then (some μ) else (bd (rf K μ v0 2 8) fun b4 => bd (rf K μ v0 0 8) fun b5 => gd (inb v1 (K b5).2) <| gd (inb ((182 * (μ.1 v0 3)) + v1) (K b4).2) <| lt1 (sI μ b4 (ix ((182 * (μ.1 v0 3)) + v1)) (μ.1 b5 (ix v1))) fun μ8 => lt1 (α := Int32) (v1 + 1) fun x9 => f_X8_saves_l59 K v0 n μ8 x9)
def f_X8_saves_l18 (K : Nat → Nat × Nat) (v0 : Nat) : Nat → Mm → Int32 → Option (Mm)
  | 0, _, _ => none
  | n + 1, μ, v1 => if 546 ≤ v1 then (some μ) else (bd (rf K μ v0 2 8) fun b14 => bd (rf K μ v0 2 8) fun b15 => gd (inb (v1 + 182) (K b15).2) <| gd (inb v1 (K b14).2) <| lt1 (sI μ b14 (ix v1) (μ.1 b15 (ix (v1 + 182)))) fun μ18 => lt1 (α := Int32) (v1 + 1) fun x19 => f_X8_saves_l18 K v0 n μ18 x19)
def f_X8_saves (K : Nat → Nat × Nat) (μ : Mm) (a0 : Nat) : Option (Mm) :=
  if (μ.1 a0 4) = 0 then (if (μ.1 a0 3) = 4 then (bd (f_X8_saves_l18 K a0 FU μ 0) fun q20 => lt1 q20 fun μ21 => lt1 (sI μ21 a0 3 ((μ21.1 a0 3) - 1)) fun μ22 => bd (f_X8_saves_l59 K a0 FU μ22 0) fun q23 => lt1 q23 fun μ24 => lt1 (sI μ24 a0 3 ((μ24.1 a0 3) + 1)) fun μ25 => some (μ25)) else (bd (f_X8_saves_l59 K a0 FU μ 0) fun q10 => lt1 q10 fun μ11 => lt1 (sI μ11 a0 3 ((μ11.1 a0 3) + 1)) fun μ12 => some (μ12))) else (some (μ))
set_option maxRecDepth 100000 in
set_option maxHeartbeats 4000000 in
theorem gl_X8_saves_59 {l : Launch} {Z : ZZ} {X : XX} (v0 : Nat) (k0 : (zk Z v0).1 = 6) (C : Cx l Z false X cX8_saves RX8 2 none) (E : xR X = rmm 0 0 0) : ∀ (n : Nat) (μ : Mm) (v1 : Int32) (y : Mm), f_X8_saves_l59 (zk Z) v0 n μ v1 = some y → G Z X 2 0 0 93 [(0, .ref (za Z v0))] [] y → G Z X 2 0 0 59 [(0, .ref (za Z v0)), (1, .int v1)] [] μ := by
  intro n
  induction n with
  | zero => intro μ v1 y h he; unfold f_X8_saves_l59 at h; cases h
  | succ n ih =>
    intro μ v1 y h he
    unfold f_X8_saves_l59 at h
    refine g_iload_n C (i := 1) 1 rfl rfl (dk kX8_saves 33 rfl) ?_
    refine g_sipush C (v := 182) (by decide) (dk kX8_saves 34 rfl) ?_
    refine g_icmp_ge C (tgt := 93) (dk kX8_saves 35 rfl) (by decide) (fun c3 => ?_) (fun c3 => ?_)
    · replace h := ite_t h c3
      cases h
      exact g_sub [0] rfl he
    · replace h := ite_f h c3
      refine g_aload_n C (i := 0) 0 rfl rfl (dk kX8_saves 36 rfl) ?_
      obtain ⟨b4, eb4, h⟩ := bd_inv h
      obtain ⟨rb4, kb4⟩ := rf_inv eb4
      refine gR_6_2 C k0 (C.w wd_5_5) rb4 (dk kX8_saves 37 rfl) ?_
      refine g_sipush C (v := 182) (by decide) (dk kX8_saves 38 rfl) ?_
      refine g_aload_n C (i := 0) 0 rfl rfl (dk kX8_saves 39 rfl) ?_
      refine gI_6_3 C k0 (C.w wd_5_6) (dk kX8_saves 40 rfl) ?_
      refine g_imul C (dk kX8_saves 41 rfl) ?_
      refine g_iload_n C (i := 1) 1 rfl rfl (dk kX8_saves 42 rfl) ?_
      refine g_iadd C (dk kX8_saves 43 rfl) ?_
      refine g_aload_n C (i := 0) 0 rfl rfl (dk kX8_saves 44 rfl) ?_
      obtain ⟨b5, eb5, h⟩ := bd_inv h
      obtain ⟨rb5, kb5⟩ := rf_inv eb5
      refine gR_6_0 C k0 (C.w wd_5_3) rb5 (dk kX8_saves 45 rfl) ?_
      refine g_iload_n C (i := 1) 1 rfl rfl (dk kX8_saves 46 rfl) ?_
      obtain ⟨c6, h⟩ := gd_inv h
      refine g_iald C kb5 c6 (dk kX8_saves 47 rfl) ?_
      obtain ⟨c7, h⟩ := gd_inv h
      obtain ⟨μ8, eμ8, h⟩ := lt_inv h
      refine g_iast C kb4 c7 eμ8 (dk kX8_saves 48 rfl) ?_
      obtain ⟨x9, ex9, h⟩ := lt_inv h
      refine g_iinc C (i := 1) (v := x9) (lv' := [(1, .int x9), (0, .ref (za Z v0))]) 1 (dk kX8_saves 49 rfl) rfl (by rw [ex9]; rfl) (by decide) rfl ?_
      refine g_goto C (tgt := 59) (dk kX8_saves 50 rfl) (by decide) ?_
      exact g_sub [1, 0] rfl (ih μ8 x9 y h he)
set_option maxRecDepth 100000 in
set_option maxHeartbeats 4000000 in
theorem gl_X8_saves_18 {l : Launch} {Z : ZZ} {X : XX} (v0 : Nat) (k0 : (zk Z v0).1 = 6) (C : Cx l Z false X cX8_saves RX8 2 none) (E : xR X = rmm 0 0 0) : ∀ (n : Nat) (μ : Mm) (v1 : Int32) (y : Mm), f_X8_saves_l18 (zk Z) v0 n μ v1 = some y → G Z X 2 0 0 47 [(0, .ref (za Z v0))] [] y → G Z X 2 0 0 18 [(0, .ref (za Z v0)), (1, .int v1)] [] μ := by
  intro n
  induction n with
  | zero => intro μ v1 y h he; unfold f_X8_saves_l18 at h; cases h
  | succ n ih =>
    intro μ v1 y h he
    unfold f_X8_saves_l18 at h
    refine g_iload_n C (i := 1) 1 rfl rfl (dk kX8_saves 10 rfl) ?_
    refine g_sipush C (v := 546) (by decide) (dk kX8_saves 11 rfl) ?_
    refine g_icmp_ge C (tgt := 47) (dk kX8_saves 12 rfl) (by decide) (fun c13 => ?_) (fun c13 => ?_)
    · replace h := ite_t h c13
      cases h
      exact g_sub [0] rfl he
    · replace h := ite_f h c13
      refine g_aload_n C (i := 0) 0 rfl rfl (dk kX8_saves 13 rfl) ?_
      obtain ⟨b14, eb14, h⟩ := bd_inv h
      obtain ⟨rb14, kb14⟩ := rf_inv eb14
      refine gR_6_2 C k0 (C.w wd_5_5) rb14 (dk kX8_saves 14 rfl) ?_
      refine g_iload_n C (i := 1) 1 rfl rfl (dk kX8_saves 15 rfl) ?_
      refine g_aload_n C (i := 0) 0 rfl rfl (dk kX8_saves 16 rfl) ?_
      obtain ⟨b15, eb15, h⟩ := bd_inv h
      obtain ⟨rb15, kb15⟩ := rf_inv eb15
      refine gR_6_2 C k0 (C.w wd_5_5) rb15 (dk kX8_saves 17 rfl) ?_
      refine g_iload_n C (i := 1) 1 rfl rfl (dk kX8_saves 18 rfl) ?_
      refine g_sipush C (v := 182) (by decide) (dk kX8_saves 19 rfl) ?_
      refine g_iadd C (dk kX8_saves 20 rfl) ?_
      obtain ⟨c16, h⟩ := gd_inv h
      refine g_iald C kb15 c16 (dk kX8_saves 21 rfl) ?_
      obtain ⟨c17, h⟩ := gd_inv h
      obtain ⟨μ18, eμ18, h⟩ := lt_inv h
      refine g_iast C kb14 c17 eμ18 (dk kX8_saves 22 rfl) ?_
      obtain ⟨x19, ex19, h⟩ := lt_inv h
      refine g_iinc C (i := 1) (v := x19) (lv' := [(1, .int x19), (0, .ref (za Z v0))]) 1 (dk kX8_saves 23 rfl) rfl (by rw [ex19]; rfl) (by decide) rfl ?_
      refine g_goto C (tgt := 18) (dk kX8_saves 24 rfl) (by decide) ?_
      exact g_sub [1, 0] rfl (ih μ18 x19 y h he)
set_option maxRecDepth 100000 in
set_option maxHeartbeats 4000000 in
theorem t_X8_saves {l : Launch} {Z : ZZ} {X : XX} (μ : Mm) (a0 : Nat) (μ' : Mm) (k0 : (zk Z a0).1 = 6) (h : f_X8_saves (zk Z) μ a0 = some μ') (C : Cx l Z false X cX8_saves RX8 2 none) (E : Ex Z X 0 0 0 none Z μ') : G Z X 2 0 0 0 [(0, .ref (za Z a0))] [] μ := by
  unfold f_X8_saves at h
  refine g_aload_n C (i := 0) 0 rfl rfl (dk kX8_saves 0 rfl) ?_
  refine gI_6_4 C k0 (C.w wd_5_7) (dk kX8_saves 1 rfl) ?_
  refine g_if_eq C (tgt := 8) (dk kX8_saves 2 rfl) (by decide) (fun c1 => ?_) (fun c1 => ?_)
  · replace h := ite_t h c1
    refine g_aload_n C (i := 0) 0 rfl rfl (dk kX8_saves 4 rfl) ?_
    refine gI_6_3 C k0 (C.w wd_5_6) (dk kX8_saves 5 rfl) ?_
    refine g_iconst C (v := 4) (by decide) (dk kX8_saves 6 rfl) ?_
    refine g_icmp_ne C (tgt := 57) (dk kX8_saves 7 rfl) (by decide) (fun c2 => ?_) (fun c2 => ?_)
    · replace h := ite_f h c2
      refine g_iconst C (v := 0) (by decide) (dk kX8_saves 31 rfl) ?_
      refine g_istore_n C (i := 1) (lv' := [(1, .int 0), (0, .ref (za Z a0))]) (dk kX8_saves 32 rfl) rfl (by decide) rfl ?_
      obtain ⟨q10, eq10, h⟩ := bd_inv h
      refine g_sub [1, 0] (lv' := [(0, .ref (za Z a0)), (1, .int 0)]) rfl ?_
      refine gl_X8_saves_59 a0 k0 C E.2 FU μ 0 _ eq10 ?_
      obtain ⟨μ11, eμ11, h⟩ := lt_inv h
      rw [← eμ11]
      refine g_aload_n C (i := 0) 0 rfl rfl (dk kX8_saves 51 rfl) ?_
      refine g_dup C rfl (dk kX8_saves 52 rfl) ?_
      refine gI_6_3 C k0 (C.w wd_5_6) (dk kX8_saves 53 rfl) ?_
      refine g_iconst C (v := 1) (by decide) (dk kX8_saves 54 rfl) ?_
      refine g_iadd C (dk kX8_saves 55 rfl) ?_
      obtain ⟨μ12, eμ12, h⟩ := lt_inv h
      refine pI_6_3 C k0 (C.w wd_5_6) eμ12 (dk kX8_saves 56 rfl) ?_
      have h9 := Option.some.inj h
      subst h9
      exact g_vret C E (Nat.le_refl 0) (Nat.le_refl 0) (dk kX8_saves 57 rfl)
    · replace h := ite_t h c2
      refine g_iconst C (v := 0) (by decide) (dk kX8_saves 8 rfl) ?_
      refine g_istore_n C (i := 1) (lv' := [(1, .int 0), (0, .ref (za Z a0))]) (dk kX8_saves 9 rfl) rfl (by decide) rfl ?_
      obtain ⟨q20, eq20, h⟩ := bd_inv h
      refine g_sub [1, 0] (lv' := [(0, .ref (za Z a0)), (1, .int 0)]) rfl ?_
      refine gl_X8_saves_18 a0 k0 C E.2 FU μ 0 _ eq20 ?_
      obtain ⟨μ21, eμ21, h⟩ := lt_inv h
      rw [← eμ21]
      refine g_aload_n C (i := 0) 0 rfl rfl (dk kX8_saves 25 rfl) ?_
      refine g_dup C rfl (dk kX8_saves 26 rfl) ?_
      refine gI_6_3 C k0 (C.w wd_5_6) (dk kX8_saves 27 rfl) ?_
      refine g_iconst C (v := 1) (by decide) (dk kX8_saves 28 rfl) ?_
      refine g_isub C (dk kX8_saves 29 rfl) ?_
      obtain ⟨μ22, eμ22, h⟩ := lt_inv h
      refine pI_6_3 C k0 (C.w wd_5_6) eμ22 (dk kX8_saves 30 rfl) ?_
      refine g_iconst C (v := 0) (by decide) (dk kX8_saves 31 rfl) ?_
      refine g_istore_n C (i := 1) (lv' := [(1, .int 0), (0, .ref (za Z a0))]) (dk kX8_saves 32 rfl) rfl (by decide) rfl ?_
      obtain ⟨q23, eq23, h⟩ := bd_inv h
      refine g_sub [1, 0] (lv' := [(0, .ref (za Z a0)), (1, .int 0)]) rfl ?_
      refine gl_X8_saves_59 a0 k0 C E.2 FU μ22 0 _ eq23 ?_
      obtain ⟨μ24, eμ24, h⟩ := lt_inv h
      rw [← eμ24]
      refine g_aload_n C (i := 0) 0 rfl rfl (dk kX8_saves 51 rfl) ?_
      refine g_dup C rfl (dk kX8_saves 52 rfl) ?_
      refine gI_6_3 C k0 (C.w wd_5_6) (dk kX8_saves 53 rfl) ?_
      refine g_iconst C (v := 1) (by decide) (dk kX8_saves 54 rfl) ?_
      refine g_iadd C (dk kX8_saves 55 rfl) ?_
      obtain ⟨μ25, eμ25, h⟩ := lt_inv h
      refine pI_6_3 C k0 (C.w wd_5_6) eμ25 (dk kX8_saves 56 rfl) ?_
      have h9 := Option.some.inj h
      subst h9
      exact g_vret C E (Nat.le_refl 0) (Nat.le_refl 0) (dk kX8_saves 57 rfl)
  · replace h := ite_f h c1
    have h9 := Option.some.inj h
    subst h9
    exact g_vret C E (Nat.le_refl 0) (Nat.le_refl 0) (dk kX8_saves 3 rfl)
theorem ct_X8_saves {l : Launch} {Z : ZZ} {μ : Mm} {a0 : Nat} {μ' : Mm} (k0 : (zk Z a0).1 = 6) (h : f_X8_saves (zk Z) μ a0 = some μ') : CtM l Z false yX8_saves cX8_saves 2 none 0 0 0 [.ref (za Z a0)] μ none Z μ' := ct_of rfl rfl (Nat.le_of_ble_eq_true rfl) (fun X C E => t_X8_saves μ a0 μ' k0 h C E)

def qX8_frees : List (Nat × Instr × Nat) := [(0, .aload_n 0, 1), (1, .getfield 7, 3), (4, .sipush 146, 3), (7, .bipush 6, 2), (9, .iload_n 1, 1), (10, .imul, 1), (11, .iadd, 1), (12, .iconst 0, 1), (13, .iadd, 1), (14, .iconst (-1), 1), (15, .iastore, 1), (16, .aload_n 0, 1), (17, .getfield 7, 3), (20, .sipush 146, 3), (23, .bipush 6, 2), (25, .iload_n 1, 1), (26, .imul, 1), (27, .iadd, 1), (28, .iconst 1, 1), (29, .iadd, 1), (30, .iconst (-1), 1), (31, .iastore, 1), (32, .return_, 1)]
theorem kX8_frees : ∀ q ∈ qX8_frees, decode cX8_frees q.1 = .ok q.2 := by decide +kernel
def f_X8_frees (K : Nat → Nat × Nat) (μ : Mm) (a0 : Nat) (a1 : Int32) : Option (Mm) :=
  bd (rf K μ a0 0 8) fun b1 => gd (inb ((146 + (6 * a1)) + 0) (K b1).2) <| lt1 (sI μ b1 (ix ((146 + (6 * a1)) + 0)) (-1)) fun μ3 => bd (rf K μ3 a0 0 8) fun b4 => gd (inb ((146 + (6 * a1)) + 1) (K b4).2) <| lt1 (sI μ3 b4 (ix ((146 + (6 * a1)) + 1)) (-1)) fun μ6 => some (μ6)
set_option maxRecDepth 100000 in
set_option maxHeartbeats 4000000 in
theorem t_X8_frees {l : Launch} {Z : ZZ} {X : XX} (μ : Mm) (a0 : Nat) (a1 : Int32) (μ' : Mm) (k0 : (zk Z a0).1 = 6) (h : f_X8_frees (zk Z) μ a0 a1 = some μ') (C : Cx l Z false X cX8_frees RX8 2 none) (E : Ex Z X 0 0 0 none Z μ') : G Z X 2 0 0 0 [(0, .ref (za Z a0)), (1, .int a1)] [] μ := by
  unfold f_X8_frees at h
  refine g_aload_n C (i := 0) 0 rfl rfl (dk kX8_frees 0 rfl) ?_
  obtain ⟨b1, eb1, h⟩ := bd_inv h
  obtain ⟨rb1, kb1⟩ := rf_inv eb1
  refine gR_6_0 C k0 (C.w wd_5_3) rb1 (dk kX8_frees 1 rfl) ?_
  refine g_sipush C (v := 146) (by decide) (dk kX8_frees 2 rfl) ?_
  refine g_bipush C (v := 6) (by decide) (dk kX8_frees 3 rfl) ?_
  refine g_iload_n C (i := 1) 1 rfl rfl (dk kX8_frees 4 rfl) ?_
  refine g_imul C (dk kX8_frees 5 rfl) ?_
  refine g_iadd C (dk kX8_frees 6 rfl) ?_
  refine g_iconst C (v := 0) (by decide) (dk kX8_frees 7 rfl) ?_
  refine g_iadd C (dk kX8_frees 8 rfl) ?_
  refine g_iconst C (v := (-1)) (by decide) (dk kX8_frees 9 rfl) ?_
  obtain ⟨c2, h⟩ := gd_inv h
  obtain ⟨μ3, eμ3, h⟩ := lt_inv h
  refine g_iast C kb1 c2 eμ3 (dk kX8_frees 10 rfl) ?_
  refine g_aload_n C (i := 0) 0 rfl rfl (dk kX8_frees 11 rfl) ?_
  obtain ⟨b4, eb4, h⟩ := bd_inv h
  obtain ⟨rb4, kb4⟩ := rf_inv eb4
  refine gR_6_0 C k0 (C.w wd_5_3) rb4 (dk kX8_frees 12 rfl) ?_
  refine g_sipush C (v := 146) (by decide) (dk kX8_frees 13 rfl) ?_
  refine g_bipush C (v := 6) (by decide) (dk kX8_frees 14 rfl) ?_
  refine g_iload_n C (i := 1) 1 rfl rfl (dk kX8_frees 15 rfl) ?_
  refine g_imul C (dk kX8_frees 16 rfl) ?_
  refine g_iadd C (dk kX8_frees 17 rfl) ?_
  refine g_iconst C (v := 1) (by decide) (dk kX8_frees 18 rfl) ?_
  refine g_iadd C (dk kX8_frees 19 rfl) ?_
  refine g_iconst C (v := (-1)) (by decide) (dk kX8_frees 20 rfl) ?_
  obtain ⟨c5, h⟩ := gd_inv h
  obtain ⟨μ6, eμ6, h⟩ := lt_inv h
  refine g_iast C kb4 c5 eμ6 (dk kX8_frees 21 rfl) ?_
  have h9 := Option.some.inj h
  subst h9
  exact g_vret C E (Nat.le_refl 0) (Nat.le_refl 0) (dk kX8_frees 22 rfl)
theorem ct_X8_frees {l : Launch} {Z : ZZ} {μ : Mm} {a0 : Nat} {a1 : Int32} {μ' : Mm} (k0 : (zk Z a0).1 = 6) (h : f_X8_frees (zk Z) μ a0 a1 = some μ') : CtM l Z false yX8_frees cX8_frees 2 none 0 0 0 [.ref (za Z a0), .int a1] μ none Z μ' := ct_of rfl rfl (Nat.le_of_ble_eq_true rfl) (fun X C E => t_X8_frees μ a0 a1 μ' k0 h C E)

def qX8_addCustomer : List (Nat × Instr × Nat) := [(0, .aload_n 0, 1), (1, .aload_n 0, 1), (2, .getfield 7, 3), (5, .bipush 9, 2), (7, .iaload, 1), (8, .bipush 6, 2), (10, .if_icmp .ne 7, 3), (13, .iconst 1, 1), (14, .goto 4, 3), (17, .iconst 0, 1), (18, .invokevirtual 44, 3), (21, .ifCond .eq 5, 3), (24, .iconst 0, 1), (25, .ireturn, 1), (26, .aload_n 0, 1), (27, .invokevirtual 48, 3), (30, .aload_n 0, 1), (31, .getfield 7, 3), (34, .bipush 9, 2), (36, .iaload, 1), (37, .istore_n 1, 1), (38, .iconst 0, 1), (39, .istore_n 2, 1), (40, .iload_n 2, 1), (41, .bipush 6, 2), (43, .if_icmp .ge 25, 3), (46, .aload_n 0, 1), (47, .getfield 7, 3), (50, .sipush 146, 3), (53, .bipush 6, 2), (55, .iload_n 1, 1), (56, .imul, 1), (57, .iadd, 1), (58, .iload_n 2, 1), (59, .iadd, 1), (60, .iconst 0, 1), (61, .iastore, 1), (62, .iinc 2 1, 3), (65, .goto (-25), 3), (68, .aload_n 0, 1), (69, .iload_n 1, 1), (70, .invokevirtual 55, 3), (73, .aload_n 0, 1), (74, .getfield 7, 3), (77, .bipush 9, 2), (79, .dup2, 1), (80, .iaload, 1), (81, .iconst 1, 1), (82, .iadd, 1), (83, .iastore, 1), (84, .iload_n 1, 1), (85, .ireturn, 1)]
theorem kX8_addCustomer : ∀ q ∈ qX8_addCustomer, decode cX8_addCustomer q.1 = .ok q.2 := by decide +kernel
def f_X8_addCustomer_l40 (K : Nat → Nat × Nat) (v0 : Nat) (v1 : Int32) : Nat → Mm → Int32 → Option (Mm)
  | 0, _, _ => none
  | n + 1, μ, v2 => if 6 ≤ v2 then (some μ) else (bd (rf K μ v0 0 8) fun b15 => gd (inb ((146 + (6 * v1)) + v2) (K b15).2) <| lt1 (sI μ b15 (ix ((146 + (6 * v1)) + v2)) 0) fun μ17 => lt1 (α := Int32) (v2 + 1) fun x18 => f_X8_addCustomer_l40 K v0 v1 n μ17 x18)
def f_X8_addCustomer (K : Nat → Nat × Nat) (μ : Mm) (a0 : Nat) : Option (Int32 × Mm) :=
  bd (rf K μ a0 0 8) fun b1 => gd (inb 9 (K b1).2) <| lt1 (α := Int32) (if (μ.1 b1 (ix 9)) = 6 then 1 else 0) fun x3 => bd (f_X8_throwsAt K μ a0 x3) fun q5 => lt1 q5.1 fun x7 => lt1 q5.2 fun μ6 => if x7 = 0 then (bd (f_X8_saves K μ6 a0) fun μ10 => bd (rf K μ10 a0 0 8) fun b11 => gd (inb 9 (K b11).2) <| lt1 (α := Int32) (μ10.1 b11 (ix 9)) fun x13 => bd (f_X8_addCustomer_l40 K a0 x13 FU μ10 0) fun q19 => lt1 q19 fun μ20 => bd (f_X8_frees K μ20 a0 x13) fun μ22 => bd (rf K μ22 a0 0 8) fun b23 => gd (inb 9 (K b23).2) <| gd (inb 9 (K b23).2) <| lt1 (sI μ22 b23 (ix 9) ((μ22.1 b23 (ix 9)) + 1)) fun μ26 => some (x13, μ26)) else (some (0, μ6))
set_option maxRecDepth 100000 in
set_option maxHeartbeats 4000000 in
theorem gl_X8_addCustomer_40 {l : Launch} {Z : ZZ} {X : XX} (v0 : Nat) (v1 : Int32) (k0 : (zk Z v0).1 = 6) (C : Cx l Z false X cX8_addCustomer RX8 3 (some .int)) (E : xR X = rmm 1 0 0) : ∀ (n : Nat) (μ : Mm) (v2 : Int32) (y : Mm), f_X8_addCustomer_l40 (zk Z) v0 v1 n μ v2 = some y → G Z X 3 0 0 68 [(0, .ref (za Z v0)), (1, .int v1)] [] y → G Z X 3 0 0 40 [(0, .ref (za Z v0)), (1, .int v1), (2, .int v2)] [] μ := by
  intro n
  induction n with
  | zero => intro μ v2 y h he; unfold f_X8_addCustomer_l40 at h; cases h
  | succ n ih =>
    intro μ v2 y h he
    unfold f_X8_addCustomer_l40 at h
    refine g_iload_n C (i := 2) 2 rfl rfl (dk kX8_addCustomer 23 rfl) ?_
    refine g_bipush C (v := 6) (by decide) (dk kX8_addCustomer 24 rfl) ?_
    refine g_icmp_ge C (tgt := 68) (dk kX8_addCustomer 25 rfl) (by decide) (fun c14 => ?_) (fun c14 => ?_)
    · replace h := ite_t h c14
      cases h
      exact g_sub [0, 1] rfl he
    · replace h := ite_f h c14
      refine g_aload_n C (i := 0) 0 rfl rfl (dk kX8_addCustomer 26 rfl) ?_
      obtain ⟨b15, eb15, h⟩ := bd_inv h
      obtain ⟨rb15, kb15⟩ := rf_inv eb15
      refine gR_6_0 C k0 (C.w wd_5_3) rb15 (dk kX8_addCustomer 27 rfl) ?_
      refine g_sipush C (v := 146) (by decide) (dk kX8_addCustomer 28 rfl) ?_
      refine g_bipush C (v := 6) (by decide) (dk kX8_addCustomer 29 rfl) ?_
      refine g_iload_n C (i := 1) 1 rfl rfl (dk kX8_addCustomer 30 rfl) ?_
      refine g_imul C (dk kX8_addCustomer 31 rfl) ?_
      refine g_iadd C (dk kX8_addCustomer 32 rfl) ?_
      refine g_iload_n C (i := 2) 2 rfl rfl (dk kX8_addCustomer 33 rfl) ?_
      refine g_iadd C (dk kX8_addCustomer 34 rfl) ?_
      refine g_iconst C (v := 0) (by decide) (dk kX8_addCustomer 35 rfl) ?_
      obtain ⟨c16, h⟩ := gd_inv h
      obtain ⟨μ17, eμ17, h⟩ := lt_inv h
      refine g_iast C kb15 c16 eμ17 (dk kX8_addCustomer 36 rfl) ?_
      obtain ⟨x18, ex18, h⟩ := lt_inv h
      refine g_iinc C (i := 2) (v := x18) (lv' := [(2, .int x18), (0, .ref (za Z v0)), (1, .int v1)]) 2 (dk kX8_addCustomer 37 rfl) rfl (by rw [ex18]; rfl) (by decide) rfl ?_
      refine g_goto C (tgt := 40) (dk kX8_addCustomer 38 rfl) (by decide) ?_
      exact g_sub [1, 2, 0] rfl (ih μ17 x18 y h he)
set_option maxRecDepth 100000 in
set_option maxHeartbeats 4000000 in
theorem t_X8_addCustomer {l : Launch} {Z : ZZ} {X : XX} (μ : Mm) (a0 : Nat) (r : Int32) (μ' : Mm) (k0 : (zk Z a0).1 = 6) (h : f_X8_addCustomer (zk Z) μ a0 = some (r, μ')) (C : Cx l Z false X cX8_addCustomer RX8 3 (some .int)) (E : Ex Z X 1 0 0 (some (.int r)) Z μ') : G Z X 3 0 0 0 [(0, .ref (za Z a0))] [] μ := by
  unfold f_X8_addCustomer at h
  refine g_aload_n C (i := 0) 0 rfl rfl (dk kX8_addCustomer 0 rfl) ?_
  refine g_aload_n C (i := 0) 0 rfl rfl (dk kX8_addCustomer 1 rfl) ?_
  obtain ⟨b1, eb1, h⟩ := bd_inv h
  obtain ⟨rb1, kb1⟩ := rf_inv eb1
  refine gR_6_0 C k0 (C.w wd_5_3) rb1 (dk kX8_addCustomer 2 rfl) ?_
  refine g_bipush C (v := 9) (by decide) (dk kX8_addCustomer 3 rfl) ?_
  obtain ⟨c2, h⟩ := gd_inv h
  refine g_iald C kb1 c2 (dk kX8_addCustomer 4 rfl) ?_
  refine g_bipush C (v := 6) (by decide) (dk kX8_addCustomer 5 rfl) ?_
  obtain ⟨x3, ex3, h⟩ := lt_inv h
  have kj4 : G Z X 3 0 0 18 [(0, .ref (za Z a0))] [.int x3, .ref (za Z a0)] μ := by
    obtain ⟨q5, eq5, h⟩ := bd_inv h
    obtain ⟨x7, ex7, h⟩ := lt_inv h
    obtain ⟨μ6, eμ6, h⟩ := lt_inv h
    rw [show q5 = (x7, μ6) from by rw [ex7, eμ6]] at eq5
    refine g_callV C E.2 (rest := []) 1 (ct_X8_throwsAt k0 eq5) wd_5_48 mm_X8_throwsAt ⟨rfl, by decide, by decide, by decide⟩ rfl (by decide) k0 (by decide) rfl rfl (Nat.le_of_ble_eq_true rfl) (by decide) (dk kX8_addCustomer 10 rfl) ?_
    refine g_if_eq C (tgt := 26) (dk kX8_addCustomer 11 rfl) (by decide) (fun c8 => ?_) (fun c8 => ?_)
    · replace h := ite_t h c8
      refine g_aload_n C (i := 0) 0 rfl rfl (dk kX8_addCustomer 14 rfl) ?_
      obtain ⟨μ10, eq9, h⟩ := bd_inv h
      refine g_callV C E.2 (rest := []) 0 (ct_X8_saves k0 eq9) wd_5_52 mm_X8_saves ⟨rfl, by decide, by decide, by decide⟩ rfl (by decide) k0 (by decide) rfl rfl (Nat.le_of_ble_eq_true rfl) (by decide) (dk kX8_addCustomer 15 rfl) ?_
      refine g_aload_n C (i := 0) 0 rfl rfl (dk kX8_addCustomer 16 rfl) ?_
      obtain ⟨b11, eb11, h⟩ := bd_inv h
      obtain ⟨rb11, kb11⟩ := rf_inv eb11
      refine gR_6_0 C k0 (C.w wd_5_3) rb11 (dk kX8_addCustomer 17 rfl) ?_
      refine g_bipush C (v := 9) (by decide) (dk kX8_addCustomer 18 rfl) ?_
      obtain ⟨c12, h⟩ := gd_inv h
      refine g_iald C kb11 c12 (dk kX8_addCustomer 19 rfl) ?_
      obtain ⟨x13, ex13, h⟩ := lt_inv h
      refine g_nmi ex13 ?_
      refine g_istore_n C (i := 1) (lv' := [(1, .int x13), (0, .ref (za Z a0))]) (dk kX8_addCustomer 20 rfl) rfl (by decide) rfl ?_
      refine g_iconst C (v := 0) (by decide) (dk kX8_addCustomer 21 rfl) ?_
      refine g_istore_n C (i := 2) (lv' := [(2, .int 0), (1, .int x13), (0, .ref (za Z a0))]) (dk kX8_addCustomer 22 rfl) rfl (by decide) rfl ?_
      obtain ⟨q19, eq19, h⟩ := bd_inv h
      refine g_sub [2, 1, 0] (lv' := [(0, .ref (za Z a0)), (1, .int x13), (2, .int 0)]) rfl ?_
      refine gl_X8_addCustomer_40 a0 x13 k0 C E.2 FU μ10 0 _ eq19 ?_
      obtain ⟨μ20, eμ20, h⟩ := lt_inv h
      rw [← eμ20]
      refine g_aload_n C (i := 0) 0 rfl rfl (dk kX8_addCustomer 39 rfl) ?_
      refine g_iload_n C (i := 1) 1 rfl rfl (dk kX8_addCustomer 40 rfl) ?_
      obtain ⟨μ22, eq21, h⟩ := bd_inv h
      refine g_callV C E.2 (rest := []) 1 (ct_X8_frees k0 eq21) wd_5_63 mm_X8_frees ⟨rfl, by decide, by decide, by decide⟩ rfl (by decide) k0 (by decide) rfl rfl (Nat.le_of_ble_eq_true rfl) (by decide) (dk kX8_addCustomer 41 rfl) ?_
      refine g_aload_n C (i := 0) 0 rfl rfl (dk kX8_addCustomer 42 rfl) ?_
      obtain ⟨b23, eb23, h⟩ := bd_inv h
      obtain ⟨rb23, kb23⟩ := rf_inv eb23
      refine gR_6_0 C k0 (C.w wd_5_3) rb23 (dk kX8_addCustomer 43 rfl) ?_
      refine g_bipush C (v := 9) (by decide) (dk kX8_addCustomer 44 rfl) ?_
      refine g_dup2 C rfl rfl (dk kX8_addCustomer 45 rfl) ?_
      obtain ⟨c24, h⟩ := gd_inv h
      refine g_iald C kb23 c24 (dk kX8_addCustomer 46 rfl) ?_
      refine g_iconst C (v := 1) (by decide) (dk kX8_addCustomer 47 rfl) ?_
      refine g_iadd C (dk kX8_addCustomer 48 rfl) ?_
      obtain ⟨c25, h⟩ := gd_inv h
      obtain ⟨μ26, eμ26, h⟩ := lt_inv h
      refine g_iast C kb23 c25 eμ26 (dk kX8_addCustomer 49 rfl) ?_
      refine g_iload_n C (i := 1) 1 rfl rfl (dk kX8_addCustomer 50 rfl) ?_
      obtain ⟨h8, h9⟩ := Prod.mk.inj (Option.some.inj h)
      subst h8
      subst h9
      exact g_iret C E rfl rfl (Nat.le_refl 0) (Nat.le_refl 0) (dk kX8_addCustomer 51 rfl)
    · replace h := ite_f h c8
      refine g_iconst C (v := 0) (by decide) (dk kX8_addCustomer 12 rfl) ?_
      obtain ⟨h8, h9⟩ := Prod.mk.inj (Option.some.inj h)
      subst h8
      subst h9
      exact g_iret C E rfl rfl (Nat.le_refl 0) (Nat.le_refl 0) (dk kX8_addCustomer 13 rfl)
  clear h
  refine g_icmp_ne C (tgt := 17) (dk kX8_addCustomer 6 rfl) (by decide) (fun c27 => ?_) (fun c27 => ?_)
  · refine g_iconst C (v := 0) (by decide) (dk kX8_addCustomer 9 rfl) ?_
    exact g_nmi (by rw [ex3, if_neg c27]) kj4
  · refine g_iconst C (v := 1) (by decide) (dk kX8_addCustomer 7 rfl) ?_
    refine g_goto C (tgt := 18) (dk kX8_addCustomer 8 rfl) (by decide) ?_
    exact g_nmi (by rw [ex3, if_pos c27]) kj4
theorem ct_X8_addCustomer {l : Launch} {Z : ZZ} {μ : Mm} {a0 : Nat} {r : Int32} {μ' : Mm} (k0 : (zk Z a0).1 = 6) (h : f_X8_addCustomer (zk Z) μ a0 = some (r, μ')) : CtM l Z false yX8_addCustomer cX8_addCustomer 3 (some .int) 1 0 0 [.ref (za Z a0)] μ (some (.int r)) Z μ' := ct_of rfl rfl (Nat.le_of_ble_eq_true rfl) (fun X C E => t_X8_addCustomer μ a0 r μ' k0 h C E)

def qX8_in : List (Nat × Instr × Nat) := [(0, .iload_n 0, 1), (1, .iload_n 1, 1), (2, .if_icmp .lt 12, 3), (5, .iload_n 0, 1), (6, .iload_n 2, 1), (7, .if_icmp .gt 7, 3), (10, .iconst 1, 1), (11, .goto 4, 3), (14, .iconst 0, 1), (15, .ireturn, 1)]
theorem kX8_in : ∀ q ∈ qX8_in, decode cX8_in q.1 = .ok q.2 := by decide +kernel
def f_X8_in (a0 : Int32) (a1 : Int32) (a2 : Int32) : Option (Int32) :=
  lt1 (α := Int32) (if a0 < a1 then 0 else (if a2 < a0 then 0 else 1)) fun x1 => gd (x1 = 0 ∨ x1 = 1) <| some x1
set_option maxRecDepth 100000 in
set_option maxHeartbeats 4000000 in
theorem t_X8_in {l : Launch} {Z : ZZ} {X : XX} (μ : Mm) (a0 : Int32) (a1 : Int32) (a2 : Int32) (r : Int32)  (h : f_X8_in a0 a1 a2 = some r) (C : Cx l Z false X cX8_in RX8 3 (some .boolean)) (E : Ex Z X 0 0 0 (some (.int r)) Z μ) : G Z X 3 0 0 0 [(0, .int a0), (1, .int a1), (2, .int a2)] [] μ := by
  unfold f_X8_in at h
  refine g_iload_n C (i := 0) 0 rfl rfl (dk kX8_in 0 rfl) ?_
  refine g_iload_n C (i := 1) 1 rfl rfl (dk kX8_in 1 rfl) ?_
  obtain ⟨x1, ex1, h⟩ := lt_inv h
  have kj2 : G Z X 3 0 0 15 [(0, .int a0), (1, .int a1), (2, .int a2)] [.int x1] μ := by
    obtain ⟨c3, h⟩ := gd_inv h
    have h9 := Option.some.inj h
    subst h9
    exact g_iret C E rfl (br0 _ c3) (Nat.le_refl 0) (Nat.le_refl 0) (dk kX8_in 9 rfl)
  clear h
  refine g_icmp_lt C (tgt := 14) (dk kX8_in 2 rfl) (by decide) (fun c4 => ?_) (fun c4 => ?_)
  · refine g_iconst C (v := 0) (by decide) (dk kX8_in 8 rfl) ?_
    exact g_nmi (by rw [ex1, if_pos c4]) kj2
  · refine g_iload_n C (i := 0) 0 rfl rfl (dk kX8_in 3 rfl) ?_
    refine g_iload_n C (i := 2) 2 rfl rfl (dk kX8_in 4 rfl) ?_
    refine g_icmp_gt C (tgt := 14) (dk kX8_in 5 rfl) (by decide) (fun c5 => ?_) (fun c5 => ?_)
    · refine g_iconst C (v := 0) (by decide) (dk kX8_in 8 rfl) ?_
      exact g_nmi (by rw [ex1, if_neg c4, if_pos c5]) kj2
    · refine g_iconst C (v := 1) (by decide) (dk kX8_in 6 rfl) ?_
      refine g_goto C (tgt := 15) (dk kX8_in 7 rfl) (by decide) ?_
      exact g_nmi (by rw [ex1, if_neg c4, if_neg c5]) kj2
theorem ct_X8_in {l : Launch} {Z : ZZ} {μ : Mm} {a0 : Int32} {a1 : Int32} {a2 : Int32} {r : Int32}  (h : f_X8_in a0 a1 a2 = some r) : CtM l Z false yX8_in cX8_in 3 (some .boolean) 0 0 0 [.int a0, .int a1, .int a2] μ (some (.int r)) Z μ := ct_of rfl rfl (Nat.le_of_ble_eq_true rfl) (fun X C E => t_X8_in μ a0 a1 a2 r  h C E)

def qX8_addLabel : List (Nat × Instr × Nat) := [(0, .aload_n 0, 1), (1, .iload_n 1, 1), (2, .iconst 1, 1), (3, .bipush 12, 2), (5, .invokestatic 36, 3), (8, .ifCond .eq 13, 3), (11, .iload_n 2, 1), (12, .iconst 1, 1), (13, .bipush 9, 2), (15, .invokestatic 36, 3), (18, .ifCond .ne 7, 3), (21, .iconst 1, 1), (22, .goto 20, 3), (25, .aload_n 0, 1), (26, .getfield 7, 3), (29, .bipush 8, 2), (31, .iaload, 1), (32, .bipush 6, 2), (34, .if_icmp .ne 7, 3), (37, .iconst 2, 1), (38, .goto 4, 3), (41, .iconst 0, 1), (42, .invokevirtual 44, 3), (45, .ifCond .eq 5, 3), (48, .iconst 0, 1), (49, .ireturn, 1), (50, .aload_n 0, 1), (51, .invokevirtual 48, 3), (54, .bipush 86, 2), (56, .bipush 10, 2), (58, .aload_n 0, 1), (59, .getfield 7, 3), (62, .bipush 8, 2), (64, .iaload, 1), (65, .imul, 1), (66, .iadd, 1), (67, .istore_n 3, 1), (68, .iconst 0, 1), (69, .istore 4, 2), (71, .iload 4, 2), (73, .bipush 10, 2), (75, .if_icmp .ge 19, 3), (78, .aload_n 0, 1), (79, .getfield 7, 3), (82, .iload_n 3, 1), (83, .iload 4, 2), (85, .iadd, 1), (86, .iconst 0, 1), (87, .iastore, 1), (88, .iinc 4 1, 3), (91, .goto (-20), 3), (94, .aload_n 0, 1), (95, .getfield 7, 3), (98, .iload_n 3, 1), (99, .iconst 0, 1), (100, .iadd, 1), (101, .iload_n 1, 1), (102, .iastore, 1), (103, .aload_n 0, 1), (104, .getfield 7, 3), (107, .iload_n 3, 1), (108, .iconst 1, 1), (109, .iadd, 1), (110, .iload_n 2, 1), (111, .iastore, 1), (112, .aload_n 0, 1), (113, .getfield 7, 3), (116, .bipush 8, 2), (118, .dup2, 1), (119, .iaload, 1), (120, .iconst 1, 1), (121, .iadd, 1), (122, .iastore, 1), (123, .aload_n 0, 1), (124, .getfield 7, 3), (127, .bipush 8, 2), (129, .iaload, 1), (130, .iconst 1, 1), (131, .isub, 1), (132, .ireturn, 1)]
theorem kX8_addLabel : ∀ q ∈ qX8_addLabel, decode cX8_addLabel q.1 = .ok q.2 := by decide +kernel
def f_X8_addLabel_l71 (K : Nat → Nat × Nat) (v0 : Nat) (v1 : Int32) (v2 : Int32) (v3 : Int32) : Nat → Mm → Int32 → Option (Mm)
  | 0, _, _ => none
  | n + 1, μ, v4 => if 10 ≤ v4 then (some μ) else (bd (rf K μ v0 0 8) fun b14 => gd (inb (v3 + v4) (K b14).2) <| lt1 (sI μ b14 (ix (v3 + v4)) 0) fun μ16 => lt1 (α := Int32) (v4 + 1) fun x17 => f_X8_addLabel_l71 K v0 v1 v2 v3 n μ16 x17)
def f_X8_addLabel (K : Nat → Nat × Nat) (μ : Mm) (a0 : Nat) (a1 : Int32) (a2 : Int32) : Option (Int32 × Mm) :=
  bd (f_X8_in a1 1 12) fun x2 => if x2 = 0 then (bd (f_X8_throwsAt K μ a0 1) fun q4 => lt1 q4.1 fun x6 => lt1 q4.2 fun μ5 => if x6 = 0 then (bd (f_X8_saves K μ5 a0) fun μ9 => bd (rf K μ9 a0 0 8) fun b10 => gd (inb 8 (K b10).2) <| lt1 (α := Int32) (86 + (10 * (μ9.1 b10 (ix 8)))) fun x12 => bd (f_X8_addLabel_l71 K a0 a1 a2 x12 FU μ9 0) fun q18 => lt1 q18 fun μ19 => bd (rf K μ19 a0 0 8) fun b20 => gd (inb (x12 + 0) (K b20).2) <| lt1 (sI μ19 b20 (ix (x12 + 0)) a1) fun μ22 => bd (rf K μ22 a0 0 8) fun b23 => gd (inb (x12 + 1) (K b23).2) <| lt1 (sI μ22 b23 (ix (x12 + 1)) a2) fun μ25 => bd (rf K μ25 a0 0 8) fun b26 => gd (inb 8 (K b26).2) <| gd (inb 8 (K b26).2) <| lt1 (sI μ25 b26 (ix 8) ((μ25.1 b26 (ix 8)) + 1)) fun μ29 => bd (rf K μ29 a0 0 8) fun b30 => gd (inb 8 (K b30).2) <| some (((μ29.1 b30 (ix 8)) - 1), μ29)) else (some (0, μ5))) else (bd (f_X8_in a2 1 9) fun x33 => if x33 = 0 then (bd (f_X8_throwsAt K μ a0 1) fun q63 => lt1 q63.1 fun x65 => lt1 q63.2 fun μ64 => if x65 = 0 then (bd (f_X8_saves K μ64 a0) fun μ68 => bd (rf K μ68 a0 0 8) fun b69 => gd (inb 8 (K b69).2) <| lt1 (α := Int32) (86 + (10 * (μ68.1 b69 (ix 8)))) fun x71 => bd (f_X8_addLabel_l71 K a0 a1 a2 x71 FU μ68 0) fun q72 => lt1 q72 fun μ73 => bd (rf K μ73 a0 0 8) fun b74 => gd (inb (x71 + 0) (K b74).2) <| lt1 (sI μ73 b74 (ix (x71 + 0)) a1) fun μ76 => bd (rf K μ76 a0 0 8) fun b77 => gd (inb (x71 + 1) (K b77).2) <| lt1 (sI μ76 b77 (ix (x71 + 1)) a2) fun μ79 => bd (rf K μ79 a0 0 8) fun b80 => gd (inb 8 (K b80).2) <| gd (inb 8 (K b80).2) <| lt1 (sI μ79 b80 (ix 8) ((μ79.1 b80 (ix 8)) + 1)) fun μ83 => bd (rf K μ83 a0 0 8) fun b84 => gd (inb 8 (K b84).2) <| some (((μ83.1 b84 (ix 8)) - 1), μ83)) else (some (0, μ64))) else (bd (rf K μ a0 0 8) fun b35 => gd (inb 8 (K b35).2) <| lt1 (α := Int32) (if (μ.1 b35 (ix 8)) = 6 then 2 else 0) fun x37 => bd (f_X8_throwsAt K μ a0 x37) fun q39 => lt1 q39.1 fun x41 => lt1 q39.2 fun μ40 => if x41 = 0 then (bd (f_X8_saves K μ40 a0) fun μ44 => bd (rf K μ44 a0 0 8) fun b45 => gd (inb 8 (K b45).2) <| lt1 (α := Int32) (86 + (10 * (μ44.1 b45 (ix 8)))) fun x47 => bd (f_X8_addLabel_l71 K a0 a1 a2 x47 FU μ44 0) fun q48 => lt1 q48 fun μ49 => bd (rf K μ49 a0 0 8) fun b50 => gd (inb (x47 + 0) (K b50).2) <| lt1 (sI μ49 b50 (ix (x47 + 0)) a1) fun μ52 => bd (rf K μ52 a0 0 8) fun b53 => gd (inb (x47 + 1) (K b53).2) <| lt1 (sI μ52 b53 (ix (x47 + 1)) a2) fun μ55 => bd (rf K μ55 a0 0 8) fun b56 => gd (inb 8 (K b56).2) <| gd (inb 8 (K b56).2) <| lt1 (sI μ55 b56 (ix 8) ((μ55.1 b56 (ix 8)) + 1)) fun μ59 => bd (rf K μ59 a0 0 8) fun b60 => gd (inb 8 (K b60).2) <| some (((μ59.1 b60 (ix 8)) - 1), μ59)) else (some (0, μ40))))
set_option maxRecDepth 100000 in
set_option maxHeartbeats 4000000 in
theorem gl_X8_addLabel_71 {l : Launch} {Z : ZZ} {X : XX} (v0 : Nat) (v1 : Int32) (v2 : Int32) (v3 : Int32) (k0 : (zk Z v0).1 = 6) (C : Cx l Z false X cX8_addLabel RX8 5 (some .int)) (E : xR X = rmm 1 0 0) : ∀ (n : Nat) (μ : Mm) (v4 : Int32) (y : Mm), f_X8_addLabel_l71 (zk Z) v0 v1 v2 v3 n μ v4 = some y → G Z X 5 0 0 94 [(0, .ref (za Z v0)), (1, .int v1), (2, .int v2), (3, .int v3)] [] y → G Z X 5 0 0 71 [(0, .ref (za Z v0)), (1, .int v1), (2, .int v2), (3, .int v3), (4, .int v4)] [] μ := by
  intro n
  induction n with
  | zero => intro μ v4 y h he; unfold f_X8_addLabel_l71 at h; cases h
  | succ n ih =>
    intro μ v4 y h he
    unfold f_X8_addLabel_l71 at h
    refine g_iload C (i := 4) 4 rfl (dk kX8_addLabel 39 rfl) ?_
    refine g_bipush C (v := 10) (by decide) (dk kX8_addLabel 40 rfl) ?_
    refine g_icmp_ge C (tgt := 94) (dk kX8_addLabel 41 rfl) (by decide) (fun c13 => ?_) (fun c13 => ?_)
    · replace h := ite_t h c13
      cases h
      exact g_sub [0, 1, 2, 3] rfl he
    · replace h := ite_f h c13
      refine g_aload_n C (i := 0) 0 rfl rfl (dk kX8_addLabel 42 rfl) ?_
      obtain ⟨b14, eb14, h⟩ := bd_inv h
      obtain ⟨rb14, kb14⟩ := rf_inv eb14
      refine gR_6_0 C k0 (C.w wd_5_3) rb14 (dk kX8_addLabel 43 rfl) ?_
      refine g_iload_n C (i := 3) 3 rfl rfl (dk kX8_addLabel 44 rfl) ?_
      refine g_iload C (i := 4) 4 rfl (dk kX8_addLabel 45 rfl) ?_
      refine g_iadd C (dk kX8_addLabel 46 rfl) ?_
      refine g_iconst C (v := 0) (by decide) (dk kX8_addLabel 47 rfl) ?_
      obtain ⟨c15, h⟩ := gd_inv h
      obtain ⟨μ16, eμ16, h⟩ := lt_inv h
      refine g_iast C kb14 c15 eμ16 (dk kX8_addLabel 48 rfl) ?_
      obtain ⟨x17, ex17, h⟩ := lt_inv h
      refine g_iinc C (i := 4) (v := x17) (lv' := [(4, .int x17), (0, .ref (za Z v0)), (1, .int v1), (2, .int v2), (3, .int v3)]) 4 (dk kX8_addLabel 49 rfl) rfl (by rw [ex17]; rfl) (by decide) rfl ?_
      refine g_goto C (tgt := 71) (dk kX8_addLabel 50 rfl) (by decide) ?_
      exact g_sub [1, 2, 3, 4, 0] rfl (ih μ16 x17 y h he)
set_option maxRecDepth 100000 in
set_option maxHeartbeats 4000000 in
theorem t_X8_addLabel {l : Launch} {Z : ZZ} {X : XX} (μ : Mm) (a0 : Nat) (a1 : Int32) (a2 : Int32) (r : Int32) (μ' : Mm) (k0 : (zk Z a0).1 = 6) (h : f_X8_addLabel (zk Z) μ a0 a1 a2 = some (r, μ')) (C : Cx l Z false X cX8_addLabel RX8 5 (some .int)) (E : Ex Z X 1 0 0 (some (.int r)) Z μ') : G Z X 5 0 0 0 [(0, .ref (za Z a0)), (1, .int a1), (2, .int a2)] [] μ := by
  unfold f_X8_addLabel at h
  refine g_aload_n C (i := 0) 0 rfl rfl (dk kX8_addLabel 0 rfl) ?_
  refine g_iload_n C (i := 1) 1 rfl rfl (dk kX8_addLabel 1 rfl) ?_
  refine g_iconst C (v := 1) (by decide) (dk kX8_addLabel 2 rfl) ?_
  refine g_bipush C (v := 12) (by decide) (dk kX8_addLabel 3 rfl) ?_
  obtain ⟨x2, eq1, h⟩ := bd_inv h
  refine g_callS C E.2 (rest := [.ref (za Z a0)]) 3 (ct_X8_in  eq1) wd_5_45 mm_X8_in ⟨by decide, by decide, by decide⟩ rfl (by decide) rfl (Nat.le_of_ble_eq_true rfl) (by decide) (dk kX8_addLabel 4 rfl) ?_
  refine g_if_eq C (tgt := 21) (dk kX8_addLabel 5 rfl) (by decide) (fun c3 => ?_) (fun c3 => ?_)
  · replace h := ite_t h c3
    refine g_iconst C (v := 1) (by decide) (dk kX8_addLabel 11 rfl) ?_
    refine g_goto C (tgt := 42) (dk kX8_addLabel 12 rfl) (by decide) ?_
    obtain ⟨q4, eq4, h⟩ := bd_inv h
    obtain ⟨x6, ex6, h⟩ := lt_inv h
    obtain ⟨μ5, eμ5, h⟩ := lt_inv h
    rw [show q4 = (x6, μ5) from by rw [ex6, eμ5]] at eq4
    refine g_callV C E.2 (rest := []) 1 (ct_X8_throwsAt k0 eq4) wd_5_48 mm_X8_throwsAt ⟨rfl, by decide, by decide, by decide⟩ rfl (by decide) k0 (by decide) rfl rfl (Nat.le_of_ble_eq_true rfl) (by decide) (dk kX8_addLabel 22 rfl) ?_
    refine g_if_eq C (tgt := 50) (dk kX8_addLabel 23 rfl) (by decide) (fun c7 => ?_) (fun c7 => ?_)
    · replace h := ite_t h c7
      refine g_aload_n C (i := 0) 0 rfl rfl (dk kX8_addLabel 26 rfl) ?_
      obtain ⟨μ9, eq8, h⟩ := bd_inv h
      refine g_callV C E.2 (rest := []) 0 (ct_X8_saves k0 eq8) wd_5_52 mm_X8_saves ⟨rfl, by decide, by decide, by decide⟩ rfl (by decide) k0 (by decide) rfl rfl (Nat.le_of_ble_eq_true rfl) (by decide) (dk kX8_addLabel 27 rfl) ?_
      refine g_bipush C (v := 86) (by decide) (dk kX8_addLabel 28 rfl) ?_
      refine g_bipush C (v := 10) (by decide) (dk kX8_addLabel 29 rfl) ?_
      refine g_aload_n C (i := 0) 0 rfl rfl (dk kX8_addLabel 30 rfl) ?_
      obtain ⟨b10, eb10, h⟩ := bd_inv h
      obtain ⟨rb10, kb10⟩ := rf_inv eb10
      refine gR_6_0 C k0 (C.w wd_5_3) rb10 (dk kX8_addLabel 31 rfl) ?_
      refine g_bipush C (v := 8) (by decide) (dk kX8_addLabel 32 rfl) ?_
      obtain ⟨c11, h⟩ := gd_inv h
      refine g_iald C kb10 c11 (dk kX8_addLabel 33 rfl) ?_
      refine g_imul C (dk kX8_addLabel 34 rfl) ?_
      refine g_iadd C (dk kX8_addLabel 35 rfl) ?_
      obtain ⟨x12, ex12, h⟩ := lt_inv h
      refine g_nmi ex12 ?_
      refine g_istore_n C (i := 3) (lv' := [(3, .int x12), (0, .ref (za Z a0)), (1, .int a1), (2, .int a2)]) (dk kX8_addLabel 36 rfl) rfl (by decide) rfl ?_
      refine g_iconst C (v := 0) (by decide) (dk kX8_addLabel 37 rfl) ?_
      refine g_istore C (i := 4) (lv' := [(4, .int 0), (3, .int x12), (0, .ref (za Z a0)), (1, .int a1), (2, .int a2)]) (dk kX8_addLabel 38 rfl) (by decide) rfl ?_
      obtain ⟨q18, eq18, h⟩ := bd_inv h
      refine g_sub [2, 3, 4, 1, 0] (lv' := [(0, .ref (za Z a0)), (1, .int a1), (2, .int a2), (3, .int x12), (4, .int 0)]) rfl ?_
      refine gl_X8_addLabel_71 a0 a1 a2 x12 k0 C E.2 FU μ9 0 _ eq18 ?_
      obtain ⟨μ19, eμ19, h⟩ := lt_inv h
      rw [← eμ19]
      refine g_aload_n C (i := 0) 0 rfl rfl (dk kX8_addLabel 51 rfl) ?_
      obtain ⟨b20, eb20, h⟩ := bd_inv h
      obtain ⟨rb20, kb20⟩ := rf_inv eb20
      refine gR_6_0 C k0 (C.w wd_5_3) rb20 (dk kX8_addLabel 52 rfl) ?_
      refine g_iload_n C (i := 3) 3 rfl rfl (dk kX8_addLabel 53 rfl) ?_
      refine g_iconst C (v := 0) (by decide) (dk kX8_addLabel 54 rfl) ?_
      refine g_iadd C (dk kX8_addLabel 55 rfl) ?_
      refine g_iload_n C (i := 1) 1 rfl rfl (dk kX8_addLabel 56 rfl) ?_
      obtain ⟨c21, h⟩ := gd_inv h
      obtain ⟨μ22, eμ22, h⟩ := lt_inv h
      refine g_iast C kb20 c21 eμ22 (dk kX8_addLabel 57 rfl) ?_
      refine g_aload_n C (i := 0) 0 rfl rfl (dk kX8_addLabel 58 rfl) ?_
      obtain ⟨b23, eb23, h⟩ := bd_inv h
      obtain ⟨rb23, kb23⟩ := rf_inv eb23
      refine gR_6_0 C k0 (C.w wd_5_3) rb23 (dk kX8_addLabel 59 rfl) ?_
      refine g_iload_n C (i := 3) 3 rfl rfl (dk kX8_addLabel 60 rfl) ?_
      refine g_iconst C (v := 1) (by decide) (dk kX8_addLabel 61 rfl) ?_
      refine g_iadd C (dk kX8_addLabel 62 rfl) ?_
      refine g_iload_n C (i := 2) 2 rfl rfl (dk kX8_addLabel 63 rfl) ?_
      obtain ⟨c24, h⟩ := gd_inv h
      obtain ⟨μ25, eμ25, h⟩ := lt_inv h
      refine g_iast C kb23 c24 eμ25 (dk kX8_addLabel 64 rfl) ?_
      refine g_aload_n C (i := 0) 0 rfl rfl (dk kX8_addLabel 65 rfl) ?_
      obtain ⟨b26, eb26, h⟩ := bd_inv h
      obtain ⟨rb26, kb26⟩ := rf_inv eb26
      refine gR_6_0 C k0 (C.w wd_5_3) rb26 (dk kX8_addLabel 66 rfl) ?_
      refine g_bipush C (v := 8) (by decide) (dk kX8_addLabel 67 rfl) ?_
      refine g_dup2 C rfl rfl (dk kX8_addLabel 68 rfl) ?_
      obtain ⟨c27, h⟩ := gd_inv h
      refine g_iald C kb26 c27 (dk kX8_addLabel 69 rfl) ?_
      refine g_iconst C (v := 1) (by decide) (dk kX8_addLabel 70 rfl) ?_
      refine g_iadd C (dk kX8_addLabel 71 rfl) ?_
      obtain ⟨c28, h⟩ := gd_inv h
      obtain ⟨μ29, eμ29, h⟩ := lt_inv h
      refine g_iast C kb26 c28 eμ29 (dk kX8_addLabel 72 rfl) ?_
      refine g_aload_n C (i := 0) 0 rfl rfl (dk kX8_addLabel 73 rfl) ?_
      obtain ⟨b30, eb30, h⟩ := bd_inv h
      obtain ⟨rb30, kb30⟩ := rf_inv eb30
      refine gR_6_0 C k0 (C.w wd_5_3) rb30 (dk kX8_addLabel 74 rfl) ?_
      refine g_bipush C (v := 8) (by decide) (dk kX8_addLabel 75 rfl) ?_
      obtain ⟨c31, h⟩ := gd_inv h
      refine g_iald C kb30 c31 (dk kX8_addLabel 76 rfl) ?_
      refine g_iconst C (v := 1) (by decide) (dk kX8_addLabel 77 rfl) ?_
      refine g_isub C (dk kX8_addLabel 78 rfl) ?_
      obtain ⟨h8, h9⟩ := Prod.mk.inj (Option.some.inj h)
      subst h8
      subst h9
      exact g_iret C E rfl rfl (Nat.le_refl 0) (Nat.le_refl 0) (dk kX8_addLabel 79 rfl)
    · replace h := ite_f h c7
      refine g_iconst C (v := 0) (by decide) (dk kX8_addLabel 24 rfl) ?_
      obtain ⟨h8, h9⟩ := Prod.mk.inj (Option.some.inj h)
      subst h8
      subst h9
      exact g_iret C E rfl rfl (Nat.le_refl 0) (Nat.le_refl 0) (dk kX8_addLabel 25 rfl)
  · replace h := ite_f h c3
    refine g_iload_n C (i := 2) 2 rfl rfl (dk kX8_addLabel 6 rfl) ?_
    refine g_iconst C (v := 1) (by decide) (dk kX8_addLabel 7 rfl) ?_
    refine g_bipush C (v := 9) (by decide) (dk kX8_addLabel 8 rfl) ?_
    obtain ⟨x33, eq32, h⟩ := bd_inv h
    refine g_callS C E.2 (rest := [.ref (za Z a0)]) 3 (ct_X8_in  eq32) wd_5_45 mm_X8_in ⟨by decide, by decide, by decide⟩ rfl (by decide) rfl (Nat.le_of_ble_eq_true rfl) (by decide) (dk kX8_addLabel 9 rfl) ?_
    refine g_if_ne C (tgt := 25) (dk kX8_addLabel 10 rfl) (by decide) (fun c34 => ?_) (fun c34 => ?_)
    · replace h := ite_f h c34
      refine g_aload_n C (i := 0) 0 rfl rfl (dk kX8_addLabel 13 rfl) ?_
      obtain ⟨b35, eb35, h⟩ := bd_inv h
      obtain ⟨rb35, kb35⟩ := rf_inv eb35
      refine gR_6_0 C k0 (C.w wd_5_3) rb35 (dk kX8_addLabel 14 rfl) ?_
      refine g_bipush C (v := 8) (by decide) (dk kX8_addLabel 15 rfl) ?_
      obtain ⟨c36, h⟩ := gd_inv h
      refine g_iald C kb35 c36 (dk kX8_addLabel 16 rfl) ?_
      refine g_bipush C (v := 6) (by decide) (dk kX8_addLabel 17 rfl) ?_
      obtain ⟨x37, ex37, h⟩ := lt_inv h
      have kj38 : G Z X 5 0 0 42 [(0, .ref (za Z a0)), (1, .int a1), (2, .int a2)] [.int x37, .ref (za Z a0)] μ := by
        obtain ⟨q39, eq39, h⟩ := bd_inv h
        obtain ⟨x41, ex41, h⟩ := lt_inv h
        obtain ⟨μ40, eμ40, h⟩ := lt_inv h
        rw [show q39 = (x41, μ40) from by rw [ex41, eμ40]] at eq39
        refine g_callV C E.2 (rest := []) 1 (ct_X8_throwsAt k0 eq39) wd_5_48 mm_X8_throwsAt ⟨rfl, by decide, by decide, by decide⟩ rfl (by decide) k0 (by decide) rfl rfl (Nat.le_of_ble_eq_true rfl) (by decide) (dk kX8_addLabel 22 rfl) ?_
        refine g_if_eq C (tgt := 50) (dk kX8_addLabel 23 rfl) (by decide) (fun c42 => ?_) (fun c42 => ?_)
        · replace h := ite_t h c42
          refine g_aload_n C (i := 0) 0 rfl rfl (dk kX8_addLabel 26 rfl) ?_
          obtain ⟨μ44, eq43, h⟩ := bd_inv h
          refine g_callV C E.2 (rest := []) 0 (ct_X8_saves k0 eq43) wd_5_52 mm_X8_saves ⟨rfl, by decide, by decide, by decide⟩ rfl (by decide) k0 (by decide) rfl rfl (Nat.le_of_ble_eq_true rfl) (by decide) (dk kX8_addLabel 27 rfl) ?_
          refine g_bipush C (v := 86) (by decide) (dk kX8_addLabel 28 rfl) ?_
          refine g_bipush C (v := 10) (by decide) (dk kX8_addLabel 29 rfl) ?_
          refine g_aload_n C (i := 0) 0 rfl rfl (dk kX8_addLabel 30 rfl) ?_
          obtain ⟨b45, eb45, h⟩ := bd_inv h
          obtain ⟨rb45, kb45⟩ := rf_inv eb45
          refine gR_6_0 C k0 (C.w wd_5_3) rb45 (dk kX8_addLabel 31 rfl) ?_
          refine g_bipush C (v := 8) (by decide) (dk kX8_addLabel 32 rfl) ?_
          obtain ⟨c46, h⟩ := gd_inv h
          refine g_iald C kb45 c46 (dk kX8_addLabel 33 rfl) ?_
          refine g_imul C (dk kX8_addLabel 34 rfl) ?_
          refine g_iadd C (dk kX8_addLabel 35 rfl) ?_
          obtain ⟨x47, ex47, h⟩ := lt_inv h
          refine g_nmi ex47 ?_
          refine g_istore_n C (i := 3) (lv' := [(3, .int x47), (0, .ref (za Z a0)), (1, .int a1), (2, .int a2)]) (dk kX8_addLabel 36 rfl) rfl (by decide) rfl ?_
          refine g_iconst C (v := 0) (by decide) (dk kX8_addLabel 37 rfl) ?_
          refine g_istore C (i := 4) (lv' := [(4, .int 0), (3, .int x47), (0, .ref (za Z a0)), (1, .int a1), (2, .int a2)]) (dk kX8_addLabel 38 rfl) (by decide) rfl ?_
          obtain ⟨q48, eq48, h⟩ := bd_inv h
          refine g_sub [2, 3, 4, 1, 0] (lv' := [(0, .ref (za Z a0)), (1, .int a1), (2, .int a2), (3, .int x47), (4, .int 0)]) rfl ?_
          refine gl_X8_addLabel_71 a0 a1 a2 x47 k0 C E.2 FU μ44 0 _ eq48 ?_
          obtain ⟨μ49, eμ49, h⟩ := lt_inv h
          rw [← eμ49]
          refine g_aload_n C (i := 0) 0 rfl rfl (dk kX8_addLabel 51 rfl) ?_
          obtain ⟨b50, eb50, h⟩ := bd_inv h
          obtain ⟨rb50, kb50⟩ := rf_inv eb50
          refine gR_6_0 C k0 (C.w wd_5_3) rb50 (dk kX8_addLabel 52 rfl) ?_
          refine g_iload_n C (i := 3) 3 rfl rfl (dk kX8_addLabel 53 rfl) ?_
          refine g_iconst C (v := 0) (by decide) (dk kX8_addLabel 54 rfl) ?_
          refine g_iadd C (dk kX8_addLabel 55 rfl) ?_
          refine g_iload_n C (i := 1) 1 rfl rfl (dk kX8_addLabel 56 rfl) ?_
          obtain ⟨c51, h⟩ := gd_inv h
          obtain ⟨μ52, eμ52, h⟩ := lt_inv h
          refine g_iast C kb50 c51 eμ52 (dk kX8_addLabel 57 rfl) ?_
          refine g_aload_n C (i := 0) 0 rfl rfl (dk kX8_addLabel 58 rfl) ?_
          obtain ⟨b53, eb53, h⟩ := bd_inv h
          obtain ⟨rb53, kb53⟩ := rf_inv eb53
          refine gR_6_0 C k0 (C.w wd_5_3) rb53 (dk kX8_addLabel 59 rfl) ?_
          refine g_iload_n C (i := 3) 3 rfl rfl (dk kX8_addLabel 60 rfl) ?_
          refine g_iconst C (v := 1) (by decide) (dk kX8_addLabel 61 rfl) ?_
          refine g_iadd C (dk kX8_addLabel 62 rfl) ?_
          refine g_iload_n C (i := 2) 2 rfl rfl (dk kX8_addLabel 63 rfl) ?_
          obtain ⟨c54, h⟩ := gd_inv h
          obtain ⟨μ55, eμ55, h⟩ := lt_inv h
          refine g_iast C kb53 c54 eμ55 (dk kX8_addLabel 64 rfl) ?_
          refine g_aload_n C (i := 0) 0 rfl rfl (dk kX8_addLabel 65 rfl) ?_
          obtain ⟨b56, eb56, h⟩ := bd_inv h
          obtain ⟨rb56, kb56⟩ := rf_inv eb56
          refine gR_6_0 C k0 (C.w wd_5_3) rb56 (dk kX8_addLabel 66 rfl) ?_
          refine g_bipush C (v := 8) (by decide) (dk kX8_addLabel 67 rfl) ?_
          refine g_dup2 C rfl rfl (dk kX8_addLabel 68 rfl) ?_
          obtain ⟨c57, h⟩ := gd_inv h
          refine g_iald C kb56 c57 (dk kX8_addLabel 69 rfl) ?_
          refine g_iconst C (v := 1) (by decide) (dk kX8_addLabel 70 rfl) ?_
          refine g_iadd C (dk kX8_addLabel 71 rfl) ?_
          obtain ⟨c58, h⟩ := gd_inv h
          obtain ⟨μ59, eμ59, h⟩ := lt_inv h
          refine g_iast C kb56 c58 eμ59 (dk kX8_addLabel 72 rfl) ?_
          refine g_aload_n C (i := 0) 0 rfl rfl (dk kX8_addLabel 73 rfl) ?_
          obtain ⟨b60, eb60, h⟩ := bd_inv h
          obtain ⟨rb60, kb60⟩ := rf_inv eb60
          refine gR_6_0 C k0 (C.w wd_5_3) rb60 (dk kX8_addLabel 74 rfl) ?_
          refine g_bipush C (v := 8) (by decide) (dk kX8_addLabel 75 rfl) ?_
          obtain ⟨c61, h⟩ := gd_inv h
          refine g_iald C kb60 c61 (dk kX8_addLabel 76 rfl) ?_
          refine g_iconst C (v := 1) (by decide) (dk kX8_addLabel 77 rfl) ?_
          refine g_isub C (dk kX8_addLabel 78 rfl) ?_
          obtain ⟨h8, h9⟩ := Prod.mk.inj (Option.some.inj h)
          subst h8
          subst h9
          exact g_iret C E rfl rfl (Nat.le_refl 0) (Nat.le_refl 0) (dk kX8_addLabel 79 rfl)
        · replace h := ite_f h c42
          refine g_iconst C (v := 0) (by decide) (dk kX8_addLabel 24 rfl) ?_
          obtain ⟨h8, h9⟩ := Prod.mk.inj (Option.some.inj h)
          subst h8
          subst h9
          exact g_iret C E rfl rfl (Nat.le_refl 0) (Nat.le_refl 0) (dk kX8_addLabel 25 rfl)
      clear h
      refine g_icmp_ne C (tgt := 41) (dk kX8_addLabel 18 rfl) (by decide) (fun c62 => ?_) (fun c62 => ?_)
      · refine g_iconst C (v := 0) (by decide) (dk kX8_addLabel 21 rfl) ?_
        exact g_nmi (by rw [ex37, if_neg c62]) kj38
      · refine g_iconst C (v := 2) (by decide) (dk kX8_addLabel 19 rfl) ?_
        refine g_goto C (tgt := 42) (dk kX8_addLabel 20 rfl) (by decide) ?_
        exact g_nmi (by rw [ex37, if_pos c62]) kj38
    · replace h := ite_t h c34
      refine g_iconst C (v := 1) (by decide) (dk kX8_addLabel 11 rfl) ?_
      refine g_goto C (tgt := 42) (dk kX8_addLabel 12 rfl) (by decide) ?_
      obtain ⟨q63, eq63, h⟩ := bd_inv h
      obtain ⟨x65, ex65, h⟩ := lt_inv h
      obtain ⟨μ64, eμ64, h⟩ := lt_inv h
      rw [show q63 = (x65, μ64) from by rw [ex65, eμ64]] at eq63
      refine g_callV C E.2 (rest := []) 1 (ct_X8_throwsAt k0 eq63) wd_5_48 mm_X8_throwsAt ⟨rfl, by decide, by decide, by decide⟩ rfl (by decide) k0 (by decide) rfl rfl (Nat.le_of_ble_eq_true rfl) (by decide) (dk kX8_addLabel 22 rfl) ?_
      refine g_if_eq C (tgt := 50) (dk kX8_addLabel 23 rfl) (by decide) (fun c66 => ?_) (fun c66 => ?_)
      · replace h := ite_t h c66
        refine g_aload_n C (i := 0) 0 rfl rfl (dk kX8_addLabel 26 rfl) ?_
        obtain ⟨μ68, eq67, h⟩ := bd_inv h
        refine g_callV C E.2 (rest := []) 0 (ct_X8_saves k0 eq67) wd_5_52 mm_X8_saves ⟨rfl, by decide, by decide, by decide⟩ rfl (by decide) k0 (by decide) rfl rfl (Nat.le_of_ble_eq_true rfl) (by decide) (dk kX8_addLabel 27 rfl) ?_
        refine g_bipush C (v := 86) (by decide) (dk kX8_addLabel 28 rfl) ?_
        refine g_bipush C (v := 10) (by decide) (dk kX8_addLabel 29 rfl) ?_
        refine g_aload_n C (i := 0) 0 rfl rfl (dk kX8_addLabel 30 rfl) ?_
        obtain ⟨b69, eb69, h⟩ := bd_inv h
        obtain ⟨rb69, kb69⟩ := rf_inv eb69
        refine gR_6_0 C k0 (C.w wd_5_3) rb69 (dk kX8_addLabel 31 rfl) ?_
        refine g_bipush C (v := 8) (by decide) (dk kX8_addLabel 32 rfl) ?_
        obtain ⟨c70, h⟩ := gd_inv h
        refine g_iald C kb69 c70 (dk kX8_addLabel 33 rfl) ?_
        refine g_imul C (dk kX8_addLabel 34 rfl) ?_
        refine g_iadd C (dk kX8_addLabel 35 rfl) ?_
        obtain ⟨x71, ex71, h⟩ := lt_inv h
        refine g_nmi ex71 ?_
        refine g_istore_n C (i := 3) (lv' := [(3, .int x71), (0, .ref (za Z a0)), (1, .int a1), (2, .int a2)]) (dk kX8_addLabel 36 rfl) rfl (by decide) rfl ?_
        refine g_iconst C (v := 0) (by decide) (dk kX8_addLabel 37 rfl) ?_
        refine g_istore C (i := 4) (lv' := [(4, .int 0), (3, .int x71), (0, .ref (za Z a0)), (1, .int a1), (2, .int a2)]) (dk kX8_addLabel 38 rfl) (by decide) rfl ?_
        obtain ⟨q72, eq72, h⟩ := bd_inv h
        refine g_sub [2, 3, 4, 1, 0] (lv' := [(0, .ref (za Z a0)), (1, .int a1), (2, .int a2), (3, .int x71), (4, .int 0)]) rfl ?_
        refine gl_X8_addLabel_71 a0 a1 a2 x71 k0 C E.2 FU μ68 0 _ eq72 ?_
        obtain ⟨μ73, eμ73, h⟩ := lt_inv h
        rw [← eμ73]
        refine g_aload_n C (i := 0) 0 rfl rfl (dk kX8_addLabel 51 rfl) ?_
        obtain ⟨b74, eb74, h⟩ := bd_inv h
        obtain ⟨rb74, kb74⟩ := rf_inv eb74
        refine gR_6_0 C k0 (C.w wd_5_3) rb74 (dk kX8_addLabel 52 rfl) ?_
        refine g_iload_n C (i := 3) 3 rfl rfl (dk kX8_addLabel 53 rfl) ?_
        refine g_iconst C (v := 0) (by decide) (dk kX8_addLabel 54 rfl) ?_
        refine g_iadd C (dk kX8_addLabel 55 rfl) ?_
        refine g_iload_n C (i := 1) 1 rfl rfl (dk kX8_addLabel 56 rfl) ?_
        obtain ⟨c75, h⟩ := gd_inv h
        obtain ⟨μ76, eμ76, h⟩ := lt_inv h
        refine g_iast C kb74 c75 eμ76 (dk kX8_addLabel 57 rfl) ?_
        refine g_aload_n C (i := 0) 0 rfl rfl (dk kX8_addLabel 58 rfl) ?_
        obtain ⟨b77, eb77, h⟩ := bd_inv h
        obtain ⟨rb77, kb77⟩ := rf_inv eb77
        refine gR_6_0 C k0 (C.w wd_5_3) rb77 (dk kX8_addLabel 59 rfl) ?_
        refine g_iload_n C (i := 3) 3 rfl rfl (dk kX8_addLabel 60 rfl) ?_
        refine g_iconst C (v := 1) (by decide) (dk kX8_addLabel 61 rfl) ?_
        refine g_iadd C (dk kX8_addLabel 62 rfl) ?_
        refine g_iload_n C (i := 2) 2 rfl rfl (dk kX8_addLabel 63 rfl) ?_
        obtain ⟨c78, h⟩ := gd_inv h
        obtain ⟨μ79, eμ79, h⟩ := lt_inv h
        refine g_iast C kb77 c78 eμ79 (dk kX8_addLabel 64 rfl) ?_
        refine g_aload_n C (i := 0) 0 rfl rfl (dk kX8_addLabel 65 rfl) ?_
        obtain ⟨b80, eb80, h⟩ := bd_inv h
        obtain ⟨rb80, kb80⟩ := rf_inv eb80
        refine gR_6_0 C k0 (C.w wd_5_3) rb80 (dk kX8_addLabel 66 rfl) ?_
        refine g_bipush C (v := 8) (by decide) (dk kX8_addLabel 67 rfl) ?_
        refine g_dup2 C rfl rfl (dk kX8_addLabel 68 rfl) ?_
        obtain ⟨c81, h⟩ := gd_inv h
        refine g_iald C kb80 c81 (dk kX8_addLabel 69 rfl) ?_
        refine g_iconst C (v := 1) (by decide) (dk kX8_addLabel 70 rfl) ?_
        refine g_iadd C (dk kX8_addLabel 71 rfl) ?_
        obtain ⟨c82, h⟩ := gd_inv h
        obtain ⟨μ83, eμ83, h⟩ := lt_inv h
        refine g_iast C kb80 c82 eμ83 (dk kX8_addLabel 72 rfl) ?_
        refine g_aload_n C (i := 0) 0 rfl rfl (dk kX8_addLabel 73 rfl) ?_
        obtain ⟨b84, eb84, h⟩ := bd_inv h
        obtain ⟨rb84, kb84⟩ := rf_inv eb84
        refine gR_6_0 C k0 (C.w wd_5_3) rb84 (dk kX8_addLabel 74 rfl) ?_
        refine g_bipush C (v := 8) (by decide) (dk kX8_addLabel 75 rfl) ?_
        obtain ⟨c85, h⟩ := gd_inv h
        refine g_iald C kb84 c85 (dk kX8_addLabel 76 rfl) ?_
        refine g_iconst C (v := 1) (by decide) (dk kX8_addLabel 77 rfl) ?_
        refine g_isub C (dk kX8_addLabel 78 rfl) ?_
        obtain ⟨h8, h9⟩ := Prod.mk.inj (Option.some.inj h)
        subst h8
        subst h9
        exact g_iret C E rfl rfl (Nat.le_refl 0) (Nat.le_refl 0) (dk kX8_addLabel 79 rfl)
      · replace h := ite_f h c66
        refine g_iconst C (v := 0) (by decide) (dk kX8_addLabel 24 rfl) ?_
        obtain ⟨h8, h9⟩ := Prod.mk.inj (Option.some.inj h)
        subst h8
        subst h9
        exact g_iret C E rfl rfl (Nat.le_refl 0) (Nat.le_refl 0) (dk kX8_addLabel 25 rfl)
theorem ct_X8_addLabel {l : Launch} {Z : ZZ} {μ : Mm} {a0 : Nat} {a1 : Int32} {a2 : Int32} {r : Int32} {μ' : Mm} (k0 : (zk Z a0).1 = 6) (h : f_X8_addLabel (zk Z) μ a0 a1 a2 = some (r, μ')) : CtM l Z false yX8_addLabel cX8_addLabel 5 (some .int) 1 0 0 [.ref (za Z a0), .int a1, .int a2] μ (some (.int r)) Z μ' := ct_of rfl rfl (Nat.le_of_ble_eq_true rfl) (fun X C E => t_X8_addLabel μ a0 a1 a2 r μ' k0 h C E)

def qX8_copies : List (Nat × Instr × Nat) := [(0, .iconst 0, 1), (1, .istore_n 1, 1), (2, .iload_n 1, 1), (3, .sipush 182, 3), (6, .if_icmp .ge 21, 3), (9, .aload_n 0, 1), (10, .getfield 13, 3), (13, .iload_n 1, 1), (14, .aload_n 0, 1), (15, .getfield 7, 3), (18, .iload_n 1, 1), (19, .iaload, 1), (20, .iastore, 1), (21, .iinc 1 1, 3), (24, .goto (-22), 3), (27, .return_, 1)]
theorem kX8_copies : ∀ q ∈ qX8_copies, decode cX8_copies q.1 = .ok q.2 := by decide +kernel
def f_X8_copies_l2 (K : Nat → Nat × Nat) (v0 : Nat) : Nat → Mm → Int32 → Option (Mm)
  | 0, _, _ => none
  | n + 1, μ, v1 => if 182 ≤ v1 then (some μ) else (bd (rf K μ v0 1 8) fun b2 => bd (rf K μ v0 0 8) fun b3 => gd (inb v1 (K b3).2) <| gd (inb v1 (K b2).2) <| lt1 (sI μ b2 (ix v1) (μ.1 b3 (ix v1))) fun μ6 => lt1 (α := Int32) (v1 + 1) fun x7 => f_X8_copies_l2 K v0 n μ6 x7)
def f_X8_copies (K : Nat → Nat × Nat) (μ : Mm) (a0 : Nat) : Option (Mm) :=
  bd (f_X8_copies_l2 K a0 FU μ 0) fun q8 => lt1 q8 fun μ9 => some (μ9)
set_option maxRecDepth 100000 in
set_option maxHeartbeats 4000000 in
theorem gl_X8_copies_2 {l : Launch} {Z : ZZ} {X : XX} (v0 : Nat) (k0 : (zk Z v0).1 = 6) (C : Cx l Z false X cX8_copies RX8 2 none) (E : xR X = rmm 0 0 0) : ∀ (n : Nat) (μ : Mm) (v1 : Int32) (y : Mm), f_X8_copies_l2 (zk Z) v0 n μ v1 = some y → G Z X 2 0 0 27 [] [] y → G Z X 2 0 0 2 [(0, .ref (za Z v0)), (1, .int v1)] [] μ := by
  intro n
  induction n with
  | zero => intro μ v1 y h he; unfold f_X8_copies_l2 at h; cases h
  | succ n ih =>
    intro μ v1 y h he
    unfold f_X8_copies_l2 at h
    refine g_iload_n C (i := 1) 1 rfl rfl (dk kX8_copies 2 rfl) ?_
    refine g_sipush C (v := 182) (by decide) (dk kX8_copies 3 rfl) ?_
    refine g_icmp_ge C (tgt := 27) (dk kX8_copies 4 rfl) (by decide) (fun c1 => ?_) (fun c1 => ?_)
    · replace h := ite_t h c1
      cases h
      exact g_sub [] rfl he
    · replace h := ite_f h c1
      refine g_aload_n C (i := 0) 0 rfl rfl (dk kX8_copies 5 rfl) ?_
      obtain ⟨b2, eb2, h⟩ := bd_inv h
      obtain ⟨rb2, kb2⟩ := rf_inv eb2
      refine gR_6_1 C k0 (C.w wd_5_4) rb2 (dk kX8_copies 6 rfl) ?_
      refine g_iload_n C (i := 1) 1 rfl rfl (dk kX8_copies 7 rfl) ?_
      refine g_aload_n C (i := 0) 0 rfl rfl (dk kX8_copies 8 rfl) ?_
      obtain ⟨b3, eb3, h⟩ := bd_inv h
      obtain ⟨rb3, kb3⟩ := rf_inv eb3
      refine gR_6_0 C k0 (C.w wd_5_3) rb3 (dk kX8_copies 9 rfl) ?_
      refine g_iload_n C (i := 1) 1 rfl rfl (dk kX8_copies 10 rfl) ?_
      obtain ⟨c4, h⟩ := gd_inv h
      refine g_iald C kb3 c4 (dk kX8_copies 11 rfl) ?_
      obtain ⟨c5, h⟩ := gd_inv h
      obtain ⟨μ6, eμ6, h⟩ := lt_inv h
      refine g_iast C kb2 c5 eμ6 (dk kX8_copies 12 rfl) ?_
      obtain ⟨x7, ex7, h⟩ := lt_inv h
      refine g_iinc C (i := 1) (v := x7) (lv' := [(1, .int x7), (0, .ref (za Z v0))]) 1 (dk kX8_copies 13 rfl) rfl (by rw [ex7]; rfl) (by decide) rfl ?_
      refine g_goto C (tgt := 2) (dk kX8_copies 14 rfl) (by decide) ?_
      exact g_sub [1, 0] rfl (ih μ6 x7 y h he)
set_option maxRecDepth 100000 in
set_option maxHeartbeats 4000000 in
theorem t_X8_copies {l : Launch} {Z : ZZ} {X : XX} (μ : Mm) (a0 : Nat) (μ' : Mm) (k0 : (zk Z a0).1 = 6) (h : f_X8_copies (zk Z) μ a0 = some μ') (C : Cx l Z false X cX8_copies RX8 2 none) (E : Ex Z X 0 0 0 none Z μ') : G Z X 2 0 0 0 [(0, .ref (za Z a0))] [] μ := by
  unfold f_X8_copies at h
  refine g_iconst C (v := 0) (by decide) (dk kX8_copies 0 rfl) ?_
  refine g_istore_n C (i := 1) (lv' := [(1, .int 0), (0, .ref (za Z a0))]) (dk kX8_copies 1 rfl) rfl (by decide) rfl ?_
  obtain ⟨q8, eq8, h⟩ := bd_inv h
  refine g_sub [1, 0] (lv' := [(0, .ref (za Z a0)), (1, .int 0)]) rfl ?_
  refine gl_X8_copies_2 a0 k0 C E.2 FU μ 0 _ eq8 ?_
  obtain ⟨μ9, eμ9, h⟩ := lt_inv h
  rw [← eμ9]
  have h9 := Option.some.inj h
  subst h9
  exact g_vret C E (Nat.le_refl 0) (Nat.le_refl 0) (dk kX8_copies 15 rfl)
theorem ct_X8_copies {l : Launch} {Z : ZZ} {μ : Mm} {a0 : Nat} {μ' : Mm} (k0 : (zk Z a0).1 = 6) (h : f_X8_copies (zk Z) μ a0 = some μ') : CtM l Z false yX8_copies cX8_copies 2 none 0 0 0 [.ref (za Z a0)] μ none Z μ' := ct_of rfl rfl (Nat.le_of_ble_eq_true rfl) (fun X C E => t_X8_copies μ a0 μ' k0 h C E)

def qX8_labelOf : List (Nat × Instr × Nat) := [(0, .aload_n 0, 1), (1, .getfield 7, 3), (4, .bipush 86, 2), (6, .bipush 10, 2), (8, .iload_n 1, 1), (9, .imul, 1), (10, .iadd, 1), (11, .iload_n 2, 1), (12, .iadd, 1), (13, .iaload, 1), (14, .ireturn, 1)]
theorem kX8_labelOf : ∀ q ∈ qX8_labelOf, decode cX8_labelOf q.1 = .ok q.2 := by decide +kernel
def f_X8_labelOf (K : Nat → Nat × Nat) (μ : Mm) (a0 : Nat) (a1 : Int32) (a2 : Int32) : Option (Int32) :=
  bd (rf K μ a0 0 8) fun b1 => gd (inb ((86 + (10 * a1)) + a2) (K b1).2) <| some (μ.1 b1 (ix ((86 + (10 * a1)) + a2)))
set_option maxRecDepth 100000 in
set_option maxHeartbeats 4000000 in
theorem t_X8_labelOf {l : Launch} {Z : ZZ} {X : XX} (μ : Mm) (a0 : Nat) (a1 : Int32) (a2 : Int32) (r : Int32) (k0 : (zk Z a0).1 = 6) (h : f_X8_labelOf (zk Z) μ a0 a1 a2 = some r) (C : Cx l Z false X cX8_labelOf RX8 3 (some .int)) (E : Ex Z X 0 0 0 (some (.int r)) Z μ) : G Z X 3 0 0 0 [(0, .ref (za Z a0)), (1, .int a1), (2, .int a2)] [] μ := by
  unfold f_X8_labelOf at h
  refine g_aload_n C (i := 0) 0 rfl rfl (dk kX8_labelOf 0 rfl) ?_
  obtain ⟨b1, eb1, h⟩ := bd_inv h
  obtain ⟨rb1, kb1⟩ := rf_inv eb1
  refine gR_6_0 C k0 (C.w wd_5_3) rb1 (dk kX8_labelOf 1 rfl) ?_
  refine g_bipush C (v := 86) (by decide) (dk kX8_labelOf 2 rfl) ?_
  refine g_bipush C (v := 10) (by decide) (dk kX8_labelOf 3 rfl) ?_
  refine g_iload_n C (i := 1) 1 rfl rfl (dk kX8_labelOf 4 rfl) ?_
  refine g_imul C (dk kX8_labelOf 5 rfl) ?_
  refine g_iadd C (dk kX8_labelOf 6 rfl) ?_
  refine g_iload_n C (i := 2) 2 rfl rfl (dk kX8_labelOf 7 rfl) ?_
  refine g_iadd C (dk kX8_labelOf 8 rfl) ?_
  obtain ⟨c2, h⟩ := gd_inv h
  refine g_iald C kb1 c2 (dk kX8_labelOf 9 rfl) ?_
  have h9 := Option.some.inj h
  subst h9
  exact g_iret C E rfl rfl (Nat.le_refl 0) (Nat.le_refl 0) (dk kX8_labelOf 10 rfl)
theorem ct_X8_labelOf {l : Launch} {Z : ZZ} {μ : Mm} {a0 : Nat} {a1 : Int32} {a2 : Int32} {r : Int32} (k0 : (zk Z a0).1 = 6) (h : f_X8_labelOf (zk Z) μ a0 a1 a2 = some r) : CtM l Z false yX8_labelOf cX8_labelOf 3 (some .int) 0 0 0 [.ref (za Z a0), .int a1, .int a2] μ (some (.int r)) Z μ := ct_of rfl rfl (Nat.le_of_ble_eq_true rfl) (fun X C E => t_X8_labelOf μ a0 a1 a2 r k0 h C E)

def qX8_dotOf : List (Nat × Instr × Nat) := [(0, .aload_n 0, 1), (1, .bipush 14, 2), (3, .iconst 3, 1), (4, .iload_n 1, 1), (5, .imul, 1), (6, .iadd, 1), (7, .iload_n 2, 1), (8, .iadd, 1), (9, .iaload, 1), (10, .ireturn, 1)]
theorem kX8_dotOf : ∀ q ∈ qX8_dotOf, decode cX8_dotOf q.1 = .ok q.2 := by decide +kernel
def f_X8_dotOf (K : Nat → Nat × Nat) (μ : Mm) (a0 : Nat) (a1 : Int32) (a2 : Int32) : Option (Int32) :=
  gd (inb ((14 + (3 * a1)) + a2) (K a0).2) <| some (μ.1 a0 (ix ((14 + (3 * a1)) + a2)))
set_option maxRecDepth 100000 in
set_option maxHeartbeats 4000000 in
theorem t_X8_dotOf {l : Launch} {Z : ZZ} {X : XX} (μ : Mm) (a0 : Nat) (a1 : Int32) (a2 : Int32) (r : Int32) (k0 : (zk Z a0).1 = 8) (h : f_X8_dotOf (zk Z) μ a0 a1 a2 = some r) (C : Cx l Z false X cX8_dotOf RX8 3 (some .int)) (E : Ex Z X 0 0 0 (some (.int r)) Z μ) : G Z X 3 0 0 0 [(0, .ref (za Z a0)), (1, .int a1), (2, .int a2)] [] μ := by
  unfold f_X8_dotOf at h
  refine g_aload_n C (i := 0) 0 rfl rfl (dk kX8_dotOf 0 rfl) ?_
  refine g_bipush C (v := 14) (by decide) (dk kX8_dotOf 1 rfl) ?_
  refine g_iconst C (v := 3) (by decide) (dk kX8_dotOf 2 rfl) ?_
  refine g_iload_n C (i := 1) 1 rfl rfl (dk kX8_dotOf 3 rfl) ?_
  refine g_imul C (dk kX8_dotOf 4 rfl) ?_
  refine g_iadd C (dk kX8_dotOf 5 rfl) ?_
  refine g_iload_n C (i := 2) 2 rfl rfl (dk kX8_dotOf 6 rfl) ?_
  refine g_iadd C (dk kX8_dotOf 7 rfl) ?_
  obtain ⟨c1, h⟩ := gd_inv h
  refine g_iald C k0 c1 (dk kX8_dotOf 8 rfl) ?_
  have h9 := Option.some.inj h
  subst h9
  exact g_iret C E rfl rfl (Nat.le_refl 0) (Nat.le_refl 0) (dk kX8_dotOf 9 rfl)
theorem ct_X8_dotOf {l : Launch} {Z : ZZ} {μ : Mm} {a0 : Nat} {a1 : Int32} {a2 : Int32} {r : Int32} (k0 : (zk Z a0).1 = 8) (h : f_X8_dotOf (zk Z) μ a0 a1 a2 = some r) : CtM l Z false yX8_dotOf cX8_dotOf 3 (some .int) 0 0 0 [.ref (za Z a0), .int a1, .int a2] μ (some (.int r)) Z μ := ct_of rfl rfl (Nat.le_of_ble_eq_true rfl) (fun X C E => t_X8_dotOf μ a0 a1 a2 r k0 h C E)

def qX8_fade : List (Nat × Instr × Nat) := [(0, .aload_n 0, 1), (1, .iload_n 1, 1), (2, .iconst 1, 1), (3, .invokestatic 40, 3), (6, .aload_n 0, 1), (7, .iconst 3, 1), (8, .iaload, 1), (9, .isub, 1), (10, .istore_n 2, 1), (11, .iload_n 2, 1), (12, .ifCond .le 11, 3), (15, .iload_n 2, 1), (16, .aload_n 0, 1), (17, .iconst 4, 1), (18, .iaload, 1), (19, .idiv, 1), (20, .goto 4, 3), (23, .iconst 0, 1), (24, .ireturn, 1)]
theorem kX8_fade : ∀ q ∈ qX8_fade, decode cX8_fade q.1 = .ok q.2 := by decide +kernel
def f_X8_fade (K : Nat → Nat × Nat) (μ : Mm) (a0 : Nat) (a1 : Int32) : Option (Int32) :=
  bd (f_X8_dotOf K μ a0 a1 1) fun x2 => gd (inb 3 (K a0).2) <| lt1 (α := Int32) (x2 - (μ.1 a0 (ix 3))) fun x4 => if x4 ≤ 0 then (some 0) else (gd (inb 4 (K a0).2) <| gd (¬ (μ.1 a0 (ix 4)) = 0) <| some (x4 / (μ.1 a0 (ix 4))))
set_option maxRecDepth 100000 in
set_option maxHeartbeats 4000000 in
theorem t_X8_fade {l : Launch} {Z : ZZ} {X : XX} (μ : Mm) (a0 : Nat) (a1 : Int32) (r : Int32) (k0 : (zk Z a0).1 = 8) (h : f_X8_fade (zk Z) μ a0 a1 = some r) (C : Cx l Z false X cX8_fade RX8 3 (some .int)) (E : Ex Z X 1 0 0 (some (.int r)) Z μ) : G Z X 3 0 0 0 [(0, .ref (za Z a0)), (1, .int a1)] [] μ := by
  unfold f_X8_fade at h
  refine g_aload_n C (i := 0) 0 rfl rfl (dk kX8_fade 0 rfl) ?_
  refine g_iload_n C (i := 1) 1 rfl rfl (dk kX8_fade 1 rfl) ?_
  refine g_iconst C (v := 1) (by decide) (dk kX8_fade 2 rfl) ?_
  obtain ⟨x2, eq1, h⟩ := bd_inv h
  refine g_callS C E.2 (rest := []) 3 (ct_X8_dotOf k0 eq1) wd_5_60 mm_X8_dotOf ⟨by decide, by decide, by decide⟩ rfl (by decide) rfl (Nat.le_of_ble_eq_true rfl) (by decide) (dk kX8_fade 3 rfl) ?_
  refine g_aload_n C (i := 0) 0 rfl rfl (dk kX8_fade 4 rfl) ?_
  refine g_iconst C (v := 3) (by decide) (dk kX8_fade 5 rfl) ?_
  obtain ⟨c3, h⟩ := gd_inv h
  refine g_iald C k0 c3 (dk kX8_fade 6 rfl) ?_
  refine g_isub C (dk kX8_fade 7 rfl) ?_
  obtain ⟨x4, ex4, h⟩ := lt_inv h
  refine g_nmi ex4 ?_
  refine g_istore_n C (i := 2) (lv' := [(2, .int x4), (0, .ref (za Z a0)), (1, .int a1)]) (dk kX8_fade 8 rfl) rfl (by decide) rfl ?_
  refine g_iload_n C (i := 2) 0 rfl rfl (dk kX8_fade 9 rfl) ?_
  refine g_if_le C (tgt := 23) (dk kX8_fade 10 rfl) (by decide) (fun c5 => ?_) (fun c5 => ?_)
  · replace h := ite_t h c5
    refine g_iconst C (v := 0) (by decide) (dk kX8_fade 17 rfl) ?_
    have h9 := Option.some.inj h
    subst h9
    exact g_iret C E rfl rfl (Nat.le_refl 0) (Nat.le_refl 0) (dk kX8_fade 18 rfl)
  · replace h := ite_f h c5
    refine g_iload_n C (i := 2) 0 rfl rfl (dk kX8_fade 11 rfl) ?_
    refine g_aload_n C (i := 0) 1 rfl rfl (dk kX8_fade 12 rfl) ?_
    refine g_iconst C (v := 4) (by decide) (dk kX8_fade 13 rfl) ?_
    obtain ⟨c6, h⟩ := gd_inv h
    refine g_iald C k0 c6 (dk kX8_fade 14 rfl) ?_
    obtain ⟨c7, h⟩ := gd_inv h
    refine g_idiv C c7 (dk kX8_fade 15 rfl) ?_
    refine g_goto C (tgt := 24) (dk kX8_fade 16 rfl) (by decide) ?_
    have h9 := Option.some.inj h
    subst h9
    exact g_iret C E rfl rfl (Nat.le_refl 0) (Nat.le_refl 0) (dk kX8_fade 18 rfl)
theorem ct_X8_fade {l : Launch} {Z : ZZ} {μ : Mm} {a0 : Nat} {a1 : Int32} {r : Int32} (k0 : (zk Z a0).1 = 8) (h : f_X8_fade (zk Z) μ a0 a1 = some r) : CtM l Z false yX8_fade cX8_fade 3 (some .int) 1 0 0 [.ref (za Z a0), .int a1] μ (some (.int r)) Z μ := ct_of rfl rfl (Nat.le_of_ble_eq_true rfl) (fun X C E => t_X8_fade μ a0 a1 r k0 h C E)

def qX8_burns : List (Nat × Instr × Nat) := [(0, .bipush 14, 2), (2, .iconst 3, 1), (3, .iload_n 1, 1), (4, .imul, 1), (5, .iadd, 1), (6, .istore_n 3, 1), (7, .bipush 10, 2), (9, .iload_n 2, 1), (10, .imul, 1), (11, .aload_n 0, 1), (12, .iload_n 3, 1), (13, .iconst 0, 1), (14, .iadd, 1), (15, .iaload, 1), (16, .isub, 1), (17, .istore 4, 2), (19, .iload 4, 2), (21, .ifCond .le 14, 3), (24, .iload 4, 2), (26, .bipush 9, 2), (28, .iadd, 1), (29, .bipush 10, 2), (31, .idiv, 1), (32, .goto 4, 3), (35, .iconst 0, 1), (36, .istore 5, 2), (38, .aload_n 0, 1), (39, .iload_n 3, 1), (40, .iconst 1, 1), (41, .iadd, 1), (42, .iaload, 1), (43, .iload 5, 2), (45, .iadd, 1), (46, .istore 6, 2), (48, .aload_n 0, 1), (49, .iload_n 3, 1), (50, .iconst 1, 1), (51, .iadd, 1), (52, .iload 6, 2), (54, .sipush 9999, 3), (57, .if_icmp .ge 8, 3), (60, .iload 6, 2), (62, .goto 6, 3), (65, .sipush 9999, 3), (68, .iastore, 1), (69, .aload_n 0, 1), (70, .iload_n 3, 1), (71, .iconst 2, 1), (72, .iadd, 1), (73, .dup2, 1), (74, .iaload, 1), (75, .iload 5, 2), (77, .iadd, 1), (78, .iastore, 1), (79, .aload_n 0, 1), (80, .bipush 10, 2), (82, .dup2, 1), (83, .iaload, 1), (84, .iload 5, 2), (86, .iadd, 1), (87, .iastore, 1), (88, .aload_n 0, 1), (89, .iload_n 3, 1), (90, .iconst 0, 1), (91, .iadd, 1), (92, .iload 4, 2), (94, .ifCond .le 10, 3), (97, .bipush 10, 2), (99, .iload_n 2, 1), (100, .imul, 1), (101, .goto 8, 3), (104, .aload_n 0, 1), (105, .iload_n 3, 1), (106, .iconst 0, 1), (107, .iadd, 1), (108, .iaload, 1), (109, .iastore, 1), (110, .return_, 1)]
theorem kX8_burns : ∀ q ∈ qX8_burns, decode cX8_burns q.1 = .ok q.2 := by decide +kernel
def f_X8_burns (K : Nat → Nat × Nat) (μ : Mm) (a0 : Nat) (a1 : Int32) (a2 : Int32) : Option (Mm) :=
  lt1 (α := Int32) (14 + (3 * a1)) fun x1 => gd (inb (x1 + 0) (K a0).2) <| lt1 (α := Int32) ((10 * a2) - (μ.1 a0 (ix (x1 + 0)))) fun x3 => lt1 (α := Int32) (if x3 ≤ 0 then 0 else ((x3 + 9) / 10)) fun x4 => gd (inb (x1 + 1) (K a0).2) <| lt1 (α := Int32) ((μ.1 a0 (ix (x1 + 1))) + x4) fun x7 => lt1 (α := Int32) (if 9999 ≤ x7 then 9999 else x7) fun x8 => gd (inb (x1 + 1) (K a0).2) <| lt1 (sI μ a0 (ix (x1 + 1)) x8) fun μ11 => gd (inb (x1 + 2) (K a0).2) <| gd (inb (x1 + 2) (K a0).2) <| lt1 (sI μ11 a0 (ix (x1 + 2)) ((μ11.1 a0 (ix (x1 + 2))) + x4)) fun μ14 => gd (inb 10 (K a0).2) <| gd (inb 10 (K a0).2) <| lt1 (sI μ14 a0 (ix 10) ((μ14.1 a0 (ix 10)) + x4)) fun μ17 => if x3 ≤ 0 then (gd (inb (x1 + 0) (K a0).2) <| gd (inb (x1 + 0) (K a0).2) <| lt1 (sI μ17 a0 (ix (x1 + 0)) (μ17.1 a0 (ix (x1 + 0)))) fun μ21 => some (μ21)) else (gd (inb (x1 + 0) (K a0).2) <| lt1 (sI μ17 a0 (ix (x1 + 0)) (10 * a2)) fun μ23 => some (μ23))
set_option maxRecDepth 100000 in
set_option maxHeartbeats 4000000 in
theorem t_X8_burns {l : Launch} {Z : ZZ} {X : XX} (μ : Mm) (a0 : Nat) (a1 : Int32) (a2 : Int32) (μ' : Mm) (k0 : (zk Z a0).1 = 8) (h : f_X8_burns (zk Z) μ a0 a1 a2 = some μ') (C : Cx l Z false X cX8_burns RX8 7 none) (E : Ex Z X 0 0 0 none Z μ') : G Z X 7 0 0 0 [(0, .ref (za Z a0)), (1, .int a1), (2, .int a2)] [] μ := by
  unfold f_X8_burns at h
  refine g_bipush C (v := 14) (by decide) (dk kX8_burns 0 rfl) ?_
  refine g_iconst C (v := 3) (by decide) (dk kX8_burns 1 rfl) ?_
  refine g_iload_n C (i := 1) 1 rfl rfl (dk kX8_burns 2 rfl) ?_
  refine g_imul C (dk kX8_burns 3 rfl) ?_
  refine g_iadd C (dk kX8_burns 4 rfl) ?_
  obtain ⟨x1, ex1, h⟩ := lt_inv h
  refine g_nmi ex1 ?_
  refine g_istore_n C (i := 3) (lv' := [(3, .int x1), (0, .ref (za Z a0)), (1, .int a1), (2, .int a2)]) (dk kX8_burns 5 rfl) rfl (by decide) rfl ?_
  refine g_bipush C (v := 10) (by decide) (dk kX8_burns 6 rfl) ?_
  refine g_iload_n C (i := 2) 3 rfl rfl (dk kX8_burns 7 rfl) ?_
  refine g_imul C (dk kX8_burns 8 rfl) ?_
  refine g_aload_n C (i := 0) 1 rfl rfl (dk kX8_burns 9 rfl) ?_
  refine g_iload_n C (i := 3) 0 rfl rfl (dk kX8_burns 10 rfl) ?_
  refine g_iconst C (v := 0) (by decide) (dk kX8_burns 11 rfl) ?_
  refine g_iadd C (dk kX8_burns 12 rfl) ?_
  obtain ⟨c2, h⟩ := gd_inv h
  refine g_iald C k0 c2 (dk kX8_burns 13 rfl) ?_
  refine g_isub C (dk kX8_burns 14 rfl) ?_
  obtain ⟨x3, ex3, h⟩ := lt_inv h
  refine g_nmi ex3 ?_
  refine g_istore C (i := 4) (lv' := [(4, .int x3), (3, .int x1), (0, .ref (za Z a0)), (1, .int a1), (2, .int a2)]) (dk kX8_burns 15 rfl) (by decide) rfl ?_
  refine g_iload C (i := 4) 0 rfl (dk kX8_burns 16 rfl) ?_
  obtain ⟨x4, ex4, h⟩ := lt_inv h
  have kj5 : G Z X 7 0 0 36 [(4, .int x3), (3, .int x1), (0, .ref (za Z a0)), (1, .int a1), (2, .int a2)] [.int x4] μ := by
    refine g_istore C (i := 5) (lv' := [(5, .int x4), (4, .int x3), (3, .int x1), (0, .ref (za Z a0)), (1, .int a1), (2, .int a2)]) (dk kX8_burns 25 rfl) (by decide) rfl ?_
    refine g_aload_n C (i := 0) 3 rfl rfl (dk kX8_burns 26 rfl) ?_
    refine g_iload_n C (i := 3) 2 rfl rfl (dk kX8_burns 27 rfl) ?_
    refine g_iconst C (v := 1) (by decide) (dk kX8_burns 28 rfl) ?_
    refine g_iadd C (dk kX8_burns 29 rfl) ?_
    obtain ⟨c6, h⟩ := gd_inv h
    refine g_iald C k0 c6 (dk kX8_burns 30 rfl) ?_
    refine g_iload C (i := 5) 0 rfl (dk kX8_burns 31 rfl) ?_
    refine g_iadd C (dk kX8_burns 32 rfl) ?_
    obtain ⟨x7, ex7, h⟩ := lt_inv h
    refine g_nmi ex7 ?_
    refine g_istore C (i := 6) (lv' := [(6, .int x7), (5, .int x4), (4, .int x3), (3, .int x1), (0, .ref (za Z a0)), (1, .int a1), (2, .int a2)]) (dk kX8_burns 33 rfl) (by decide) rfl ?_
    refine g_aload_n C (i := 0) 4 rfl rfl (dk kX8_burns 34 rfl) ?_
    refine g_iload_n C (i := 3) 3 rfl rfl (dk kX8_burns 35 rfl) ?_
    refine g_iconst C (v := 1) (by decide) (dk kX8_burns 36 rfl) ?_
    refine g_iadd C (dk kX8_burns 37 rfl) ?_
    refine g_iload C (i := 6) 0 rfl (dk kX8_burns 38 rfl) ?_
    refine g_sipush C (v := 9999) (by decide) (dk kX8_burns 39 rfl) ?_
    obtain ⟨x8, ex8, h⟩ := lt_inv h
    have kj9 : G Z X 7 0 0 68 [(6, .int x7), (5, .int x4), (4, .int x3), (3, .int x1), (0, .ref (za Z a0)), (1, .int a1), (2, .int a2)] [.int x8, .int (x1 + 1), .ref (za Z a0)] μ := by
      obtain ⟨c10, h⟩ := gd_inv h
      obtain ⟨μ11, eμ11, h⟩ := lt_inv h
      refine g_iast C k0 c10 eμ11 (dk kX8_burns 44 rfl) ?_
      refine g_aload_n C (i := 0) 4 rfl rfl (dk kX8_burns 45 rfl) ?_
      refine g_iload_n C (i := 3) 3 rfl rfl (dk kX8_burns 46 rfl) ?_
      refine g_iconst C (v := 2) (by decide) (dk kX8_burns 47 rfl) ?_
      refine g_iadd C (dk kX8_burns 48 rfl) ?_
      refine g_dup2 C rfl rfl (dk kX8_burns 49 rfl) ?_
      obtain ⟨c12, h⟩ := gd_inv h
      refine g_iald C k0 c12 (dk kX8_burns 50 rfl) ?_
      refine g_iload C (i := 5) 1 rfl (dk kX8_burns 51 rfl) ?_
      refine g_iadd C (dk kX8_burns 52 rfl) ?_
      obtain ⟨c13, h⟩ := gd_inv h
      obtain ⟨μ14, eμ14, h⟩ := lt_inv h
      refine g_iast C k0 c13 eμ14 (dk kX8_burns 53 rfl) ?_
      refine g_aload_n C (i := 0) 4 rfl rfl (dk kX8_burns 54 rfl) ?_
      refine g_bipush C (v := 10) (by decide) (dk kX8_burns 55 rfl) ?_
      refine g_dup2 C rfl rfl (dk kX8_burns 56 rfl) ?_
      obtain ⟨c15, h⟩ := gd_inv h
      refine g_iald C k0 c15 (dk kX8_burns 57 rfl) ?_
      refine g_iload C (i := 5) 1 rfl (dk kX8_burns 58 rfl) ?_
      refine g_iadd C (dk kX8_burns 59 rfl) ?_
      obtain ⟨c16, h⟩ := gd_inv h
      obtain ⟨μ17, eμ17, h⟩ := lt_inv h
      refine g_iast C k0 c16 eμ17 (dk kX8_burns 60 rfl) ?_
      refine g_aload_n C (i := 0) 4 rfl rfl (dk kX8_burns 61 rfl) ?_
      refine g_iload_n C (i := 3) 3 rfl rfl (dk kX8_burns 62 rfl) ?_
      refine g_iconst C (v := 0) (by decide) (dk kX8_burns 63 rfl) ?_
      refine g_iadd C (dk kX8_burns 64 rfl) ?_
      refine g_iload C (i := 4) 2 rfl (dk kX8_burns 65 rfl) ?_
      refine g_if_le C (tgt := 104) (dk kX8_burns 66 rfl) (by decide) (fun c18 => ?_) (fun c18 => ?_)
      · replace h := ite_t h c18
        refine g_aload_n C (i := 0) 4 rfl rfl (dk kX8_burns 71 rfl) ?_
        refine g_iload_n C (i := 3) 3 rfl rfl (dk kX8_burns 72 rfl) ?_
        refine g_iconst C (v := 0) (by decide) (dk kX8_burns 73 rfl) ?_
        refine g_iadd C (dk kX8_burns 74 rfl) ?_
        obtain ⟨c19, h⟩ := gd_inv h
        refine g_iald C k0 c19 (dk kX8_burns 75 rfl) ?_
        obtain ⟨c20, h⟩ := gd_inv h
        obtain ⟨μ21, eμ21, h⟩ := lt_inv h
        refine g_iast C k0 c20 eμ21 (dk kX8_burns 76 rfl) ?_
        have h9 := Option.some.inj h
        subst h9
        exact g_vret C E (Nat.le_refl 0) (Nat.le_refl 0) (dk kX8_burns 77 rfl)
      · replace h := ite_f h c18
        refine g_bipush C (v := 10) (by decide) (dk kX8_burns 67 rfl) ?_
        refine g_iload_n C (i := 2) 6 rfl rfl (dk kX8_burns 68 rfl) ?_
        refine g_imul C (dk kX8_burns 69 rfl) ?_
        refine g_goto C (tgt := 109) (dk kX8_burns 70 rfl) (by decide) ?_
        obtain ⟨c22, h⟩ := gd_inv h
        obtain ⟨μ23, eμ23, h⟩ := lt_inv h
        refine g_iast C k0 c22 eμ23 (dk kX8_burns 76 rfl) ?_
        have h9 := Option.some.inj h
        subst h9
        exact g_vret C E (Nat.le_refl 0) (Nat.le_refl 0) (dk kX8_burns 77 rfl)
    clear h
    refine g_icmp_ge C (tgt := 65) (dk kX8_burns 40 rfl) (by decide) (fun c24 => ?_) (fun c24 => ?_)
    · refine g_sipush C (v := 9999) (by decide) (dk kX8_burns 43 rfl) ?_
      exact g_nmi (by rw [ex8, if_pos c24]) kj9
    · refine g_iload C (i := 6) 0 rfl (dk kX8_burns 41 rfl) ?_
      refine g_goto C (tgt := 68) (dk kX8_burns 42 rfl) (by decide) ?_
      exact g_nmi (by rw [ex8, if_neg c24]) kj9
  clear h
  refine g_if_le C (tgt := 35) (dk kX8_burns 17 rfl) (by decide) (fun c25 => ?_) (fun c25 => ?_)
  · refine g_iconst C (v := 0) (by decide) (dk kX8_burns 24 rfl) ?_
    exact g_nmi (by rw [ex4, if_pos c25]) kj5
  · refine g_iload C (i := 4) 0 rfl (dk kX8_burns 18 rfl) ?_
    refine g_bipush C (v := 9) (by decide) (dk kX8_burns 19 rfl) ?_
    refine g_iadd C (dk kX8_burns 20 rfl) ?_
    refine g_bipush C (v := 10) (by decide) (dk kX8_burns 21 rfl) ?_
    refine g_idiv C (by decide) (dk kX8_burns 22 rfl) ?_
    refine g_goto C (tgt := 36) (dk kX8_burns 23 rfl) (by decide) ?_
    exact g_nmi (by rw [ex4, if_neg c25]) kj5
theorem ct_X8_burns {l : Launch} {Z : ZZ} {μ : Mm} {a0 : Nat} {a1 : Int32} {a2 : Int32} {μ' : Mm} (k0 : (zk Z a0).1 = 8) (h : f_X8_burns (zk Z) μ a0 a1 a2 = some μ') : CtM l Z false yX8_burns cX8_burns 7 none 0 0 0 [.ref (za Z a0), .int a1, .int a2] μ none Z μ' := ct_of rfl rfl (Nat.le_of_ble_eq_true rfl) (fun X C E => t_X8_burns μ a0 a1 a2 μ' k0 h C E)

def qX8_cools : List (Nat × Instr × Nat) := [(0, .iconst 0, 1), (1, .istore_n 1, 1), (2, .iload_n 1, 1), (3, .aload_n 0, 1), (4, .iconst 0, 1), (5, .iaload, 1), (6, .if_icmp .ge 39, 3), (9, .aload_n 0, 1), (10, .iload_n 1, 1), (11, .iconst 0, 1), (12, .invokestatic 40, 3), (15, .aload_n 0, 1), (16, .iconst 1, 1), (17, .iaload, 1), (18, .isub, 1), (19, .istore_n 2, 1), (20, .aload_n 0, 1), (21, .bipush 14, 2), (23, .iconst 3, 1), (24, .iload_n 1, 1), (25, .imul, 1), (26, .iadd, 1), (27, .iconst 0, 1), (28, .iadd, 1), (29, .iload_n 2, 1), (30, .ifCond .ge 7, 3), (33, .iconst 0, 1), (34, .goto 4, 3), (37, .iload_n 2, 1), (38, .iastore, 1), (39, .iinc 1 1, 3), (42, .goto (-40), 3), (45, .aload_n 0, 1), (46, .bipush 13, 2), (48, .dup2, 1), (49, .iaload, 1), (50, .iconst 1, 1), (51, .iadd, 1), (52, .iastore, 1), (53, .return_, 1)]
theorem kX8_cools : ∀ q ∈ qX8_cools, decode cX8_cools q.1 = .ok q.2 := by decide +kernel
def f_X8_cools_l2 (K : Nat → Nat × Nat) (v0 : Nat) : Nat → Mm → Int32 → Option (Mm)
  | 0, _, _ => none
  | n + 1, μ, v1 => gd (inb 0 (K v0).2) <| if (μ.1 v0 (ix 0)) ≤ v1 then (some μ) else (bd (f_X8_dotOf K μ v0 v1 0) fun x4 => gd (inb 1 (K v0).2) <| lt1 (α := Int32) (x4 - (μ.1 v0 (ix 1))) fun x6 => lt1 (α := Int32) (if 0 ≤ x6 then x6 else 0) fun x7 => gd (inb ((14 + (3 * v1)) + 0) (K v0).2) <| lt1 (sI μ v0 (ix ((14 + (3 * v1)) + 0)) x7) fun μ10 => lt1 (α := Int32) (v1 + 1) fun x11 => f_X8_cools_l2 K v0 n μ10 x11)
def f_X8_cools (K : Nat → Nat × Nat) (μ : Mm) (a0 : Nat) : Option (Mm) :=
  bd (f_X8_cools_l2 K a0 FU μ 0) fun q13 => lt1 q13 fun μ14 => gd (inb 13 (K a0).2) <| gd (inb 13 (K a0).2) <| lt1 (sI μ14 a0 (ix 13) ((μ14.1 a0 (ix 13)) + 1)) fun μ17 => some (μ17)
set_option maxRecDepth 100000 in
set_option maxHeartbeats 4000000 in
theorem gl_X8_cools_2 {l : Launch} {Z : ZZ} {X : XX} (v0 : Nat) (k0 : (zk Z v0).1 = 8) (C : Cx l Z false X cX8_cools RX8 3 none) (E : xR X = rmm 1 0 0) : ∀ (n : Nat) (μ : Mm) (v1 : Int32) (y : Mm), f_X8_cools_l2 (zk Z) v0 n μ v1 = some y → G Z X 3 0 0 45 [(0, .ref (za Z v0))] [] y → G Z X 3 0 0 2 [(0, .ref (za Z v0)), (1, .int v1)] [] μ := by
  intro n
  induction n with
  | zero => intro μ v1 y h he; unfold f_X8_cools_l2 at h; cases h
  | succ n ih =>
    intro μ v1 y h he
    unfold f_X8_cools_l2 at h
    refine g_iload_n C (i := 1) 1 rfl rfl (dk kX8_cools 2 rfl) ?_
    refine g_aload_n C (i := 0) 0 rfl rfl (dk kX8_cools 3 rfl) ?_
    refine g_iconst C (v := 0) (by decide) (dk kX8_cools 4 rfl) ?_
    obtain ⟨c1, h⟩ := gd_inv h
    refine g_iald C k0 c1 (dk kX8_cools 5 rfl) ?_
    refine g_icmp_ge C (tgt := 45) (dk kX8_cools 6 rfl) (by decide) (fun c2 => ?_) (fun c2 => ?_)
    · replace h := ite_t h c2
      cases h
      exact g_sub [0] rfl he
    · replace h := ite_f h c2
      refine g_aload_n C (i := 0) 0 rfl rfl (dk kX8_cools 7 rfl) ?_
      refine g_iload_n C (i := 1) 1 rfl rfl (dk kX8_cools 8 rfl) ?_
      refine g_iconst C (v := 0) (by decide) (dk kX8_cools 9 rfl) ?_
      obtain ⟨x4, eq3, h⟩ := bd_inv h
      refine g_callS C E (rest := []) 3 (ct_X8_dotOf k0 eq3) wd_5_60 mm_X8_dotOf ⟨by decide, by decide, by decide⟩ rfl (by decide) rfl (Nat.le_of_ble_eq_true rfl) (by decide) (dk kX8_cools 10 rfl) ?_
      refine g_aload_n C (i := 0) 0 rfl rfl (dk kX8_cools 11 rfl) ?_
      refine g_iconst C (v := 1) (by decide) (dk kX8_cools 12 rfl) ?_
      obtain ⟨c5, h⟩ := gd_inv h
      refine g_iald C k0 c5 (dk kX8_cools 13 rfl) ?_
      refine g_isub C (dk kX8_cools 14 rfl) ?_
      obtain ⟨x6, ex6, h⟩ := lt_inv h
      refine g_nmi ex6 ?_
      refine g_istore_n C (i := 2) (lv' := [(2, .int x6), (0, .ref (za Z v0)), (1, .int v1)]) (dk kX8_cools 15 rfl) rfl (by decide) rfl ?_
      refine g_aload_n C (i := 0) 1 rfl rfl (dk kX8_cools 16 rfl) ?_
      refine g_bipush C (v := 14) (by decide) (dk kX8_cools 17 rfl) ?_
      refine g_iconst C (v := 3) (by decide) (dk kX8_cools 18 rfl) ?_
      refine g_iload_n C (i := 1) 2 rfl rfl (dk kX8_cools 19 rfl) ?_
      refine g_imul C (dk kX8_cools 20 rfl) ?_
      refine g_iadd C (dk kX8_cools 21 rfl) ?_
      refine g_iconst C (v := 0) (by decide) (dk kX8_cools 22 rfl) ?_
      refine g_iadd C (dk kX8_cools 23 rfl) ?_
      refine g_iload_n C (i := 2) 0 rfl rfl (dk kX8_cools 24 rfl) ?_
      obtain ⟨x7, ex7, h⟩ := lt_inv h
      have kj8 : G Z X 3 0 0 38 [(2, .int x6), (0, .ref (za Z v0)), (1, .int v1)] [.int x7, .int ((14 + (3 * v1)) + 0), .ref (za Z v0)] μ := by
        obtain ⟨c9, h⟩ := gd_inv h
        obtain ⟨μ10, eμ10, h⟩ := lt_inv h
        refine g_iast C k0 c9 eμ10 (dk kX8_cools 29 rfl) ?_
        obtain ⟨x11, ex11, h⟩ := lt_inv h
        refine g_iinc C (i := 1) (v := x11) (lv' := [(1, .int x11), (2, .int x6), (0, .ref (za Z v0))]) 2 (dk kX8_cools 30 rfl) rfl (by rw [ex11]; rfl) (by decide) rfl ?_
        refine g_goto C (tgt := 2) (dk kX8_cools 31 rfl) (by decide) ?_
        exact g_sub [2, 0] rfl (ih μ10 x11 y h he)
      clear h
      refine g_if_ge C (tgt := 37) (dk kX8_cools 25 rfl) (by decide) (fun c12 => ?_) (fun c12 => ?_)
      · refine g_iload_n C (i := 2) 0 rfl rfl (dk kX8_cools 28 rfl) ?_
        exact g_nmi (by rw [ex7, if_pos c12]) kj8
      · refine g_iconst C (v := 0) (by decide) (dk kX8_cools 26 rfl) ?_
        refine g_goto C (tgt := 38) (dk kX8_cools 27 rfl) (by decide) ?_
        exact g_nmi (by rw [ex7, if_neg c12]) kj8
set_option maxRecDepth 100000 in
set_option maxHeartbeats 4000000 in
theorem t_X8_cools {l : Launch} {Z : ZZ} {X : XX} (μ : Mm) (a0 : Nat) (μ' : Mm) (k0 : (zk Z a0).1 = 8) (h : f_X8_cools (zk Z) μ a0 = some μ') (C : Cx l Z false X cX8_cools RX8 3 none) (E : Ex Z X 1 0 0 none Z μ') : G Z X 3 0 0 0 [(0, .ref (za Z a0))] [] μ := by
  unfold f_X8_cools at h
  refine g_iconst C (v := 0) (by decide) (dk kX8_cools 0 rfl) ?_
  refine g_istore_n C (i := 1) (lv' := [(1, .int 0), (0, .ref (za Z a0))]) (dk kX8_cools 1 rfl) rfl (by decide) rfl ?_
  obtain ⟨q13, eq13, h⟩ := bd_inv h
  refine g_sub [1, 0] (lv' := [(0, .ref (za Z a0)), (1, .int 0)]) rfl ?_
  refine gl_X8_cools_2 a0 k0 C E.2 FU μ 0 _ eq13 ?_
  obtain ⟨μ14, eμ14, h⟩ := lt_inv h
  rw [← eμ14]
  refine g_aload_n C (i := 0) 0 rfl rfl (dk kX8_cools 32 rfl) ?_
  refine g_bipush C (v := 13) (by decide) (dk kX8_cools 33 rfl) ?_
  refine g_dup2 C rfl rfl (dk kX8_cools 34 rfl) ?_
  obtain ⟨c15, h⟩ := gd_inv h
  refine g_iald C k0 c15 (dk kX8_cools 35 rfl) ?_
  refine g_iconst C (v := 1) (by decide) (dk kX8_cools 36 rfl) ?_
  refine g_iadd C (dk kX8_cools 37 rfl) ?_
  obtain ⟨c16, h⟩ := gd_inv h
  obtain ⟨μ17, eμ17, h⟩ := lt_inv h
  refine g_iast C k0 c16 eμ17 (dk kX8_cools 38 rfl) ?_
  have h9 := Option.some.inj h
  subst h9
  exact g_vret C E (Nat.le_refl 0) (Nat.le_refl 0) (dk kX8_cools 39 rfl)
theorem ct_X8_cools {l : Launch} {Z : ZZ} {μ : Mm} {a0 : Nat} {μ' : Mm} (k0 : (zk Z a0).1 = 8) (h : f_X8_cools (zk Z) μ a0 = some μ') : CtM l Z false yX8_cools cX8_cools 3 none 1 0 0 [.ref (za Z a0)] μ none Z μ' := ct_of rfl rfl (Nat.le_of_ble_eq_true rfl) (fun X C E => t_X8_cools μ a0 μ' k0 h C E)

def qX8_plays : List (Nat × Instr × Nat) := [(0, .iconst 0, 1), (1, .istore 4, 2), (3, .iconst 0, 1), (4, .istore 5, 2), (6, .iload 5, 2), (8, .bipush 6, 2), (10, .if_icmp .ge 117, 3), (13, .iconst 0, 1), (14, .istore 6, 2), (16, .iload 6, 2), (18, .aload_n 0, 1), (19, .iload_n 2, 1), (20, .iconst 0, 1), (21, .invokevirtual 68, 3), (24, .if_icmp .ge 93, 3), (27, .aload_n 0, 1), (28, .iload_n 2, 1), (29, .iconst 2, 1), (30, .iload 5, 2), (32, .iadd, 1), (33, .invokevirtual 68, 3), (36, .iload 6, 2), (38, .ishr, 1), (39, .iconst 1, 1), (40, .iand, 1), (41, .iconst 1, 1), (42, .if_icmp .ne 44, 3), (45, .iload 4, 2), (47, .aload_n 1, 1), (48, .iload_n 3, 1), (49, .iload 6, 2), (51, .iadd, 1), (52, .invokestatic 101, 3), (55, .aload_n 1, 1), (56, .iconst 5, 1), (57, .iaload, 1), (58, .if_icmp .le 7, 3), (61, .iconst 1, 1), (62, .goto 4, 3), (65, .iconst 0, 1), (66, .iadd, 1), (67, .istore 4, 2), (69, .aload_n 1, 1), (70, .iload_n 3, 1), (71, .iload 6, 2), (73, .iadd, 1), (74, .aload_n 0, 1), (75, .iload_n 2, 1), (76, .iconst 1, 1), (77, .invokevirtual 68, 3), (80, .invokestatic 105, 3), (83, .goto 28, 3), (86, .iload 4, 2), (88, .aload_n 1, 1), (89, .iload_n 3, 1), (90, .iload 6, 2), (92, .iadd, 1), (93, .iconst 0, 1), (94, .invokestatic 40, 3), (97, .aload_n 1, 1), (98, .iconst 2, 1), (99, .iaload, 1), (100, .if_icmp .le 7, 3), (103, .iconst 1, 1), (104, .goto 4, 3), (107, .iconst 0, 1), (108, .iadd, 1), (109, .istore 4, 2), (111, .iinc 6 1, 3), (114, .goto (-98), 3), (117, .aload_n 1, 1), (118, .invokestatic 75, 3), (121, .iinc 5 1, 3), (124, .goto (-118), 3), (127, .iload 4, 2), (129, .ireturn, 1)]
theorem kX8_plays : ∀ q ∈ qX8_plays, decode cX8_plays q.1 = .ok q.2 := by decide +kernel
def f_X8_plays_l16 (K : Nat → Nat × Nat) (v0 : Nat) (v1 : Nat) (v2 : Int32) (v3 : Int32) (v5 : Int32) : Nat → Mm → Int32 → Int32 → Option (Int32 × Mm)
  | 0, _, _, _ => none
  | n + 1, μ, v4, v6 => bd (f_X8_labelOf K μ v0 v2 0) fun x3 => if x3 ≤ v6 then (some (v4, μ)) else (bd (f_X8_labelOf K μ v0 v2 (2 + v5)) fun x6 => if ((x6 >>> (v6 &&& 31)) &&& 1) = 1 then (bd (f_X8_fade K μ v1 (v3 + v6)) fun x17 => gd (inb 5 (K v1).2) <| lt1 (α := Int32) (if x17 ≤ (μ.1 v1 (ix 5)) then 0 else 1) fun x19 => lt1 (α := Int32) (v4 + x19) fun x21 => bd (f_X8_labelOf K μ v0 v2 1) fun x23 => bd (f_X8_burns K μ v1 (v3 + v6) x23) fun μ25 => lt1 (α := Int32) (v6 + 1) fun x26 => f_X8_plays_l16 K v0 v1 v2 v3 v5 n μ25 x21 x26) else (bd (f_X8_dotOf K μ v1 (v3 + v6) 0) fun x9 => gd (inb 2 (K v1).2) <| lt1 (α := Int32) (if x9 ≤ (μ.1 v1 (ix 2)) then 0 else 1) fun x11 => lt1 (α := Int32) (v4 + x11) fun x13 => lt1 (α := Int32) (v6 + 1) fun x14 => f_X8_plays_l16 K v0 v1 v2 v3 v5 n μ x13 x14))
def f_X8_plays_l6 (K : Nat → Nat × Nat) (v0 : Nat) (v1 : Nat) (v2 : Int32) (v3 : Int32) : Nat → Mm → Int32 → Int32 → Option (Int32 × Mm)
  | 0, _, _, _ => none
  | n + 1, μ, v4, v5 => if 6 ≤ v5 then (some (v4, μ)) else (bd (f_X8_plays_l16 K v0 v1 v2 v3 v5 FU μ v4 0) fun q28 => lt1 q28.1 fun x29 => lt1 q28.2 fun μ30 => bd (f_X8_cools K μ30 v1) fun μ32 => lt1 (α := Int32) (v5 + 1) fun x33 => f_X8_plays_l6 K v0 v1 v2 v3 n μ32 x29 x33)
def f_X8_plays (K : Nat → Nat × Nat) (μ : Mm) (a0 : Nat) (a1 : Nat) (a2 : Int32) (a3 : Int32) : Option (Int32 × Mm) :=
  bd (f_X8_plays_l6 K a0 a1 a2 a3 FU μ 0 0) fun q34 => lt1 q34.1 fun x35 => lt1 q34.2 fun μ36 => some (x35, μ36)
set_option maxRecDepth 100000 in
set_option maxHeartbeats 4000000 in
theorem gl_X8_plays_16 {l : Launch} {Z : ZZ} {X : XX} (v0 : Nat) (v1 : Nat) (v2 : Int32) (v3 : Int32) (v5 : Int32) (k0 : (zk Z v0).1 = 6) (k1 : (zk Z v1).1 = 8) (C : Cx l Z false X cX8_plays RX8 7 (some .int)) (E : xR X = rmm 2 0 0) : ∀ (n : Nat) (μ : Mm) (v4 : Int32) (v6 : Int32) (y : Int32 × Mm), f_X8_plays_l16 (zk Z) v0 v1 v2 v3 v5 n μ v4 v6 = some y → G Z X 7 0 0 117 [(0, .ref (za Z v0)), (1, .ref (za Z v1)), (2, .int v2), (3, .int v3), (4, .int y.1), (5, .int v5)] [] y.2 → G Z X 7 0 0 16 [(0, .ref (za Z v0)), (1, .ref (za Z v1)), (2, .int v2), (3, .int v3), (4, .int v4), (5, .int v5), (6, .int v6)] [] μ := by
  intro n
  induction n with
  | zero => intro μ v4 v6 y h he; unfold f_X8_plays_l16 at h; cases h
  | succ n ih =>
    intro μ v4 v6 y h he
    unfold f_X8_plays_l16 at h
    refine g_iload C (i := 6) 6 rfl (dk kX8_plays 9 rfl) ?_
    refine g_aload_n C (i := 0) 0 rfl rfl (dk kX8_plays 10 rfl) ?_
    refine g_iload_n C (i := 2) 2 rfl rfl (dk kX8_plays 11 rfl) ?_
    refine g_iconst C (v := 0) (by decide) (dk kX8_plays 12 rfl) ?_
    obtain ⟨x3, eq2, h⟩ := bd_inv h
    refine g_callV C E (rest := [.int v6]) 2 (ct_X8_labelOf k0 eq2) wd_5_89 mm_X8_labelOf ⟨rfl, by decide, by decide, by decide⟩ rfl (by decide) k0 (by decide) rfl rfl (Nat.le_of_ble_eq_true rfl) (by decide) (dk kX8_plays 13 rfl) ?_
    refine g_icmp_ge C (tgt := 117) (dk kX8_plays 14 rfl) (by decide) (fun c4 => ?_) (fun c4 => ?_)
    · replace h := ite_t h c4
      cases h
      exact g_sub [0, 1, 2, 3, 4, 5] rfl he
    · replace h := ite_f h c4
      refine g_aload_n C (i := 0) 0 rfl rfl (dk kX8_plays 15 rfl) ?_
      refine g_iload_n C (i := 2) 2 rfl rfl (dk kX8_plays 16 rfl) ?_
      refine g_iconst C (v := 2) (by decide) (dk kX8_plays 17 rfl) ?_
      refine g_iload C (i := 5) 5 rfl (dk kX8_plays 18 rfl) ?_
      refine g_iadd C (dk kX8_plays 19 rfl) ?_
      obtain ⟨x6, eq5, h⟩ := bd_inv h
      refine g_callV C E (rest := []) 2 (ct_X8_labelOf k0 eq5) wd_5_89 mm_X8_labelOf ⟨rfl, by decide, by decide, by decide⟩ rfl (by decide) k0 (by decide) rfl rfl (Nat.le_of_ble_eq_true rfl) (by decide) (dk kX8_plays 20 rfl) ?_
      refine g_iload C (i := 6) 6 rfl (dk kX8_plays 21 rfl) ?_
      refine g_ishr C (dk kX8_plays 22 rfl) ?_
      refine g_iconst C (v := 1) (by decide) (dk kX8_plays 23 rfl) ?_
      refine g_iand C (dk kX8_plays 24 rfl) ?_
      refine g_iconst C (v := 1) (by decide) (dk kX8_plays 25 rfl) ?_
      refine g_icmp_ne C (tgt := 86) (dk kX8_plays 26 rfl) (by decide) (fun c7 => ?_) (fun c7 => ?_)
      · replace h := ite_f h c7
        refine g_iload C (i := 4) 4 rfl (dk kX8_plays 52 rfl) ?_
        refine g_aload_n C (i := 1) 1 rfl rfl (dk kX8_plays 53 rfl) ?_
        refine g_iload_n C (i := 3) 3 rfl rfl (dk kX8_plays 54 rfl) ?_
        refine g_iload C (i := 6) 6 rfl (dk kX8_plays 55 rfl) ?_
        refine g_iadd C (dk kX8_plays 56 rfl) ?_
        refine g_iconst C (v := 0) (by decide) (dk kX8_plays 57 rfl) ?_
        obtain ⟨x9, eq8, h⟩ := bd_inv h
        refine g_callS C E (rest := [.int v4]) 3 (ct_X8_dotOf k1 eq8) wd_5_60 mm_X8_dotOf ⟨by decide, by decide, by decide⟩ rfl (by decide) rfl (Nat.le_of_ble_eq_true rfl) (by decide) (dk kX8_plays 58 rfl) ?_
        refine g_aload_n C (i := 1) 1 rfl rfl (dk kX8_plays 59 rfl) ?_
        refine g_iconst C (v := 2) (by decide) (dk kX8_plays 60 rfl) ?_
        obtain ⟨c10, h⟩ := gd_inv h
        refine g_iald C k1 c10 (dk kX8_plays 61 rfl) ?_
        obtain ⟨x11, ex11, h⟩ := lt_inv h
        have kj12 : G Z X 7 0 0 108 [(0, .ref (za Z v0)), (1, .ref (za Z v1)), (2, .int v2), (3, .int v3), (4, .int v4), (5, .int v5), (6, .int v6)] [.int x11, .int v4] μ := by
          refine g_iadd C (dk kX8_plays 66 rfl) ?_
          obtain ⟨x13, ex13, h⟩ := lt_inv h
          refine g_nmi ex13 ?_
          refine g_istore C (i := 4) (lv' := [(4, .int x13), (0, .ref (za Z v0)), (1, .ref (za Z v1)), (2, .int v2), (3, .int v3), (5, .int v5), (6, .int v6)]) (dk kX8_plays 67 rfl) (by decide) rfl ?_
          obtain ⟨x14, ex14, h⟩ := lt_inv h
          refine g_iinc C (i := 6) (v := x14) (lv' := [(6, .int x14), (4, .int x13), (0, .ref (za Z v0)), (1, .ref (za Z v1)), (2, .int v2), (3, .int v3), (5, .int v5)]) 6 (dk kX8_plays 68 rfl) rfl (by rw [ex14]; rfl) (by decide) rfl ?_
          refine g_goto C (tgt := 16) (dk kX8_plays 69 rfl) (by decide) ?_
          exact g_sub [2, 3, 4, 5, 1, 6, 0] rfl (ih μ x13 x14 y h he)
        clear h
        refine g_icmp_le C (tgt := 107) (dk kX8_plays 62 rfl) (by decide) (fun c15 => ?_) (fun c15 => ?_)
        · refine g_iconst C (v := 0) (by decide) (dk kX8_plays 65 rfl) ?_
          exact g_nmi (by rw [ex11, if_pos c15]) kj12
        · refine g_iconst C (v := 1) (by decide) (dk kX8_plays 63 rfl) ?_
          refine g_goto C (tgt := 108) (dk kX8_plays 64 rfl) (by decide) ?_
          exact g_nmi (by rw [ex11, if_neg c15]) kj12
      · replace h := ite_t h c7
        refine g_iload C (i := 4) 4 rfl (dk kX8_plays 27 rfl) ?_
        refine g_aload_n C (i := 1) 1 rfl rfl (dk kX8_plays 28 rfl) ?_
        refine g_iload_n C (i := 3) 3 rfl rfl (dk kX8_plays 29 rfl) ?_
        refine g_iload C (i := 6) 6 rfl (dk kX8_plays 30 rfl) ?_
        refine g_iadd C (dk kX8_plays 31 rfl) ?_
        obtain ⟨x17, eq16, h⟩ := bd_inv h
        refine g_callS C E (rest := [.int v4]) 2 (ct_X8_fade k1 eq16) wd_5_171 mm_X8_fade ⟨by decide, by decide, by decide⟩ rfl (by decide) rfl (Nat.le_of_ble_eq_true rfl) (by decide) (dk kX8_plays 32 rfl) ?_
        refine g_aload_n C (i := 1) 1 rfl rfl (dk kX8_plays 33 rfl) ?_
        refine g_iconst C (v := 5) (by decide) (dk kX8_plays 34 rfl) ?_
        obtain ⟨c18, h⟩ := gd_inv h
        refine g_iald C k1 c18 (dk kX8_plays 35 rfl) ?_
        obtain ⟨x19, ex19, h⟩ := lt_inv h
        have kj20 : G Z X 7 0 0 66 [(0, .ref (za Z v0)), (1, .ref (za Z v1)), (2, .int v2), (3, .int v3), (4, .int v4), (5, .int v5), (6, .int v6)] [.int x19, .int v4] μ := by
          refine g_iadd C (dk kX8_plays 40 rfl) ?_
          obtain ⟨x21, ex21, h⟩ := lt_inv h
          refine g_nmi ex21 ?_
          refine g_istore C (i := 4) (lv' := [(4, .int x21), (0, .ref (za Z v0)), (1, .ref (za Z v1)), (2, .int v2), (3, .int v3), (5, .int v5), (6, .int v6)]) (dk kX8_plays 41 rfl) (by decide) rfl ?_
          refine g_aload_n C (i := 1) 2 rfl rfl (dk kX8_plays 42 rfl) ?_
          refine g_iload_n C (i := 3) 4 rfl rfl (dk kX8_plays 43 rfl) ?_
          refine g_iload C (i := 6) 6 rfl (dk kX8_plays 44 rfl) ?_
          refine g_iadd C (dk kX8_plays 45 rfl) ?_
          refine g_aload_n C (i := 0) 1 rfl rfl (dk kX8_plays 46 rfl) ?_
          refine g_iload_n C (i := 2) 3 rfl rfl (dk kX8_plays 47 rfl) ?_
          refine g_iconst C (v := 1) (by decide) (dk kX8_plays 48 rfl) ?_
          obtain ⟨x23, eq22, h⟩ := bd_inv h
          refine g_callV C E (rest := [.int (v3 + v6), .ref (za Z v1)]) 2 (ct_X8_labelOf k0 eq22) wd_5_89 mm_X8_labelOf ⟨rfl, by decide, by decide, by decide⟩ rfl (by decide) k0 (by decide) rfl rfl (Nat.le_of_ble_eq_true rfl) (by decide) (dk kX8_plays 49 rfl) ?_
          obtain ⟨μ25, eq24, h⟩ := bd_inv h
          refine g_callS C E (rest := []) 3 (ct_X8_burns k1 eq24) wd_5_174 mm_X8_burns ⟨by decide, by decide, by decide⟩ rfl (by decide) rfl (Nat.le_of_ble_eq_true rfl) (by decide) (dk kX8_plays 50 rfl) ?_
          refine g_goto C (tgt := 111) (dk kX8_plays 51 rfl) (by decide) ?_
          obtain ⟨x26, ex26, h⟩ := lt_inv h
          refine g_iinc C (i := 6) (v := x26) (lv' := [(6, .int x26), (4, .int x21), (0, .ref (za Z v0)), (1, .ref (za Z v1)), (2, .int v2), (3, .int v3), (5, .int v5)]) 6 (dk kX8_plays 68 rfl) rfl (by rw [ex26]; rfl) (by decide) rfl ?_
          refine g_goto C (tgt := 16) (dk kX8_plays 69 rfl) (by decide) ?_
          exact g_sub [2, 3, 4, 5, 1, 6, 0] rfl (ih μ25 x21 x26 y h he)
        clear h
        refine g_icmp_le C (tgt := 65) (dk kX8_plays 36 rfl) (by decide) (fun c27 => ?_) (fun c27 => ?_)
        · refine g_iconst C (v := 0) (by decide) (dk kX8_plays 39 rfl) ?_
          exact g_nmi (by rw [ex19, if_pos c27]) kj20
        · refine g_iconst C (v := 1) (by decide) (dk kX8_plays 37 rfl) ?_
          refine g_goto C (tgt := 66) (dk kX8_plays 38 rfl) (by decide) ?_
          exact g_nmi (by rw [ex19, if_neg c27]) kj20
set_option maxRecDepth 100000 in
set_option maxHeartbeats 4000000 in
theorem gl_X8_plays_6 {l : Launch} {Z : ZZ} {X : XX} (v0 : Nat) (v1 : Nat) (v2 : Int32) (v3 : Int32) (k0 : (zk Z v0).1 = 6) (k1 : (zk Z v1).1 = 8) (C : Cx l Z false X cX8_plays RX8 7 (some .int)) (E : xR X = rmm 2 0 0) : ∀ (n : Nat) (μ : Mm) (v4 : Int32) (v5 : Int32) (y : Int32 × Mm), f_X8_plays_l6 (zk Z) v0 v1 v2 v3 n μ v4 v5 = some y → G Z X 7 0 0 127 [(4, .int y.1)] [] y.2 → G Z X 7 0 0 6 [(0, .ref (za Z v0)), (1, .ref (za Z v1)), (2, .int v2), (3, .int v3), (4, .int v4), (5, .int v5)] [] μ := by
  intro n
  induction n with
  | zero => intro μ v4 v5 y h he; unfold f_X8_plays_l6 at h; cases h
  | succ n ih =>
    intro μ v4 v5 y h he
    unfold f_X8_plays_l6 at h
    refine g_iload C (i := 5) 5 rfl (dk kX8_plays 4 rfl) ?_
    refine g_bipush C (v := 6) (by decide) (dk kX8_plays 5 rfl) ?_
    refine g_icmp_ge C (tgt := 127) (dk kX8_plays 6 rfl) (by decide) (fun c1 => ?_) (fun c1 => ?_)
    · replace h := ite_t h c1
      cases h
      exact g_sub [4] rfl he
    · replace h := ite_f h c1
      refine g_iconst C (v := 0) (by decide) (dk kX8_plays 7 rfl) ?_
      refine g_istore C (i := 6) (lv' := [(6, .int 0), (0, .ref (za Z v0)), (1, .ref (za Z v1)), (2, .int v2), (3, .int v3), (4, .int v4), (5, .int v5)]) (dk kX8_plays 8 rfl) (by decide) rfl ?_
      obtain ⟨q28, eq28, h⟩ := bd_inv h
      refine g_sub [1, 2, 3, 4, 5, 6, 0] (lv' := [(0, .ref (za Z v0)), (1, .ref (za Z v1)), (2, .int v2), (3, .int v3), (4, .int v4), (5, .int v5), (6, .int 0)]) rfl ?_
      refine gl_X8_plays_16 v0 v1 v2 v3 v5 k0 k1 C E FU μ v4 0 _ eq28 ?_
      obtain ⟨x29, ex29, h⟩ := lt_inv h
      obtain ⟨μ30, eμ30, h⟩ := lt_inv h
      rw [← ex29, ← eμ30]
      refine g_aload_n C (i := 1) 1 rfl rfl (dk kX8_plays 70 rfl) ?_
      obtain ⟨μ32, eq31, h⟩ := bd_inv h
      refine g_callS C E (rest := []) 1 (ct_X8_cools k1 eq31) wd_5_105 mm_X8_cools ⟨by decide, by decide, by decide⟩ rfl (by decide) rfl (Nat.le_of_ble_eq_true rfl) (by decide) (dk kX8_plays 71 rfl) ?_
      obtain ⟨x33, ex33, h⟩ := lt_inv h
      refine g_iinc C (i := 5) (v := x33) (lv' := [(5, .int x33), (0, .ref (za Z v0)), (1, .ref (za Z v1)), (2, .int v2), (3, .int v3), (4, .int x29)]) 5 (dk kX8_plays 72 rfl) rfl (by rw [ex33]; rfl) (by decide) rfl ?_
      refine g_goto C (tgt := 6) (dk kX8_plays 73 rfl) (by decide) ?_
      exact g_sub [1, 2, 3, 4, 5, 0] rfl (ih μ32 x29 x33 y h he)
set_option maxRecDepth 100000 in
set_option maxHeartbeats 4000000 in
theorem t_X8_plays {l : Launch} {Z : ZZ} {X : XX} (μ : Mm) (a0 : Nat) (a1 : Nat) (a2 : Int32) (a3 : Int32) (r : Int32) (μ' : Mm) (k0 : (zk Z a0).1 = 6) (k1 : (zk Z a1).1 = 8) (h : f_X8_plays (zk Z) μ a0 a1 a2 a3 = some (r, μ')) (C : Cx l Z false X cX8_plays RX8 7 (some .int)) (E : Ex Z X 2 0 0 (some (.int r)) Z μ') : G Z X 7 0 0 0 [(0, .ref (za Z a0)), (1, .ref (za Z a1)), (2, .int a2), (3, .int a3)] [] μ := by
  unfold f_X8_plays at h
  refine g_iconst C (v := 0) (by decide) (dk kX8_plays 0 rfl) ?_
  refine g_istore C (i := 4) (lv' := [(4, .int 0), (0, .ref (za Z a0)), (1, .ref (za Z a1)), (2, .int a2), (3, .int a3)]) (dk kX8_plays 1 rfl) (by decide) rfl ?_
  refine g_iconst C (v := 0) (by decide) (dk kX8_plays 2 rfl) ?_
  refine g_istore C (i := 5) (lv' := [(5, .int 0), (4, .int 0), (0, .ref (za Z a0)), (1, .ref (za Z a1)), (2, .int a2), (3, .int a3)]) (dk kX8_plays 3 rfl) (by decide) rfl ?_
  obtain ⟨q34, eq34, h⟩ := bd_inv h
  refine g_sub [2, 3, 4, 5, 1, 0] (lv' := [(0, .ref (za Z a0)), (1, .ref (za Z a1)), (2, .int a2), (3, .int a3), (4, .int 0), (5, .int 0)]) rfl ?_
  refine gl_X8_plays_6 a0 a1 a2 a3 k0 k1 C E.2 FU μ 0 0 _ eq34 ?_
  obtain ⟨x35, ex35, h⟩ := lt_inv h
  obtain ⟨μ36, eμ36, h⟩ := lt_inv h
  rw [← ex35, ← eμ36]
  refine g_iload C (i := 4) 0 rfl (dk kX8_plays 74 rfl) ?_
  obtain ⟨h8, h9⟩ := Prod.mk.inj (Option.some.inj h)
  subst h8
  subst h9
  exact g_iret C E rfl rfl (Nat.le_refl 0) (Nat.le_refl 0) (dk kX8_plays 75 rfl)
theorem ct_X8_plays {l : Launch} {Z : ZZ} {μ : Mm} {a0 : Nat} {a1 : Nat} {a2 : Int32} {a3 : Int32} {r : Int32} {μ' : Mm} (k0 : (zk Z a0).1 = 6) (k1 : (zk Z a1).1 = 8) (h : f_X8_plays (zk Z) μ a0 a1 a2 a3 = some (r, μ')) : CtM l Z false yX8_plays cX8_plays 7 (some .int) 2 0 0 [.ref (za Z a0), .ref (za Z a1), .int a2, .int a3] μ (some (.int r)) Z μ' := ct_of rfl rfl (Nat.le_of_ble_eq_true rfl) (fun X C E => t_X8_plays μ a0 a1 a2 a3 r μ' k0 k1 h C E)

def qX8_badOf : List (Nat × Instr × Nat) := [(0, .aload_n 0, 1), (1, .invokevirtual 109, 3), (4, .aload_n 0, 1), (5, .aload_n 0, 1), (6, .getfield 13, 3), (9, .iload_n 1, 1), (10, .iload_n 2, 1), (11, .invokevirtual 112, 3), (14, .ireturn, 1)]
theorem kX8_badOf : ∀ q ∈ qX8_badOf, decode cX8_badOf q.1 = .ok q.2 := by decide +kernel
def f_X8_badOf (K : Nat → Nat × Nat) (μ : Mm) (a0 : Nat) (a1 : Int32) (a2 : Int32) : Option (Int32 × Mm) :=
  bd (f_X8_copies K μ a0) fun μ2 => bd (rf K μ2 a0 1 8) fun b3 => bd (f_X8_plays K μ2 a0 b3 a1 a2) fun q4 => lt1 q4.1 fun x6 => lt1 q4.2 fun μ5 => some (x6, μ5)
set_option maxRecDepth 100000 in
set_option maxHeartbeats 4000000 in
theorem t_X8_badOf {l : Launch} {Z : ZZ} {X : XX} (μ : Mm) (a0 : Nat) (a1 : Int32) (a2 : Int32) (r : Int32) (μ' : Mm) (k0 : (zk Z a0).1 = 6) (h : f_X8_badOf (zk Z) μ a0 a1 a2 = some (r, μ')) (C : Cx l Z false X cX8_badOf RX8 3 (some .int)) (E : Ex Z X 3 0 0 (some (.int r)) Z μ') : G Z X 3 0 0 0 [(0, .ref (za Z a0)), (1, .int a1), (2, .int a2)] [] μ := by
  unfold f_X8_badOf at h
  refine g_aload_n C (i := 0) 0 rfl rfl (dk kX8_badOf 0 rfl) ?_
  obtain ⟨μ2, eq1, h⟩ := bd_inv h
  refine g_callV C E.2 (rest := []) 0 (ct_X8_copies k0 eq1) wd_5_189 mm_X8_copies ⟨rfl, by decide, by decide, by decide⟩ rfl (by decide) k0 (by decide) rfl rfl (Nat.le_of_ble_eq_true rfl) (by decide) (dk kX8_badOf 1 rfl) ?_
  refine g_aload_n C (i := 0) 0 rfl rfl (dk kX8_badOf 2 rfl) ?_
  refine g_aload_n C (i := 0) 0 rfl rfl (dk kX8_badOf 3 rfl) ?_
  obtain ⟨b3, eb3, h⟩ := bd_inv h
  obtain ⟨rb3, kb3⟩ := rf_inv eb3
  refine gR_6_1 C k0 (C.w wd_5_4) rb3 (dk kX8_badOf 4 rfl) ?_
  refine g_iload_n C (i := 1) 1 rfl rfl (dk kX8_badOf 5 rfl) ?_
  refine g_iload_n C (i := 2) 2 rfl rfl (dk kX8_badOf 6 rfl) ?_
  obtain ⟨q4, eq4, h⟩ := bd_inv h
  obtain ⟨x6, ex6, h⟩ := lt_inv h
  obtain ⟨μ5, eμ5, h⟩ := lt_inv h
  rw [show q4 = (x6, μ5) from by rw [ex6, eμ5]] at eq4
  refine g_callV C E.2 (rest := []) 3 (ct_X8_plays k0 kb3 eq4) wd_5_167 mm_X8_plays ⟨rfl, by decide, by decide, by decide⟩ rfl (by decide) k0 (by decide) rfl rfl (Nat.le_of_ble_eq_true rfl) (by decide) (dk kX8_badOf 7 rfl) ?_
  obtain ⟨h8, h9⟩ := Prod.mk.inj (Option.some.inj h)
  subst h8
  subst h9
  exact g_iret C E rfl rfl (Nat.le_refl 0) (Nat.le_refl 0) (dk kX8_badOf 8 rfl)
theorem ct_X8_badOf {l : Launch} {Z : ZZ} {μ : Mm} {a0 : Nat} {a1 : Int32} {a2 : Int32} {r : Int32} {μ' : Mm} (k0 : (zk Z a0).1 = 6) (h : f_X8_badOf (zk Z) μ a0 a1 a2 = some (r, μ')) : CtM l Z false yX8_badOf cX8_badOf 3 (some .int) 3 0 0 [.ref (za Z a0), .int a1, .int a2] μ (some (.int r)) Z μ' := ct_of rfl rfl (Nat.le_of_ble_eq_true rfl) (fun X C E => t_X8_badOf μ a0 a1 a2 r μ' k0 h C E)

def qX8_sumOf : List (Nat × Instr × Nat) := [(0, .iconst 0, 1), (1, .istore_n 2, 1), (2, .iconst 0, 1), (3, .istore_n 3, 1), (4, .iload_n 3, 1), (5, .aload_n 0, 1), (6, .getfield 7, 3), (9, .iconst 0, 1), (10, .iaload, 1), (11, .if_icmp .ge 21, 3), (14, .iload_n 2, 1), (15, .aload_n 0, 1), (16, .getfield 7, 3), (19, .iload_n 3, 1), (20, .iload_n 1, 1), (21, .invokestatic 40, 3), (24, .iadd, 1), (25, .istore_n 2, 1), (26, .iinc 3 1, 3), (29, .goto (-25), 3), (32, .iload_n 2, 1), (33, .ireturn, 1)]
theorem kX8_sumOf : ∀ q ∈ qX8_sumOf, decode cX8_sumOf q.1 = .ok q.2 := by decide +kernel
def f_X8_sumOf_l4 (K : Nat → Nat × Nat) (μ : Mm) (v0 : Nat) (v1 : Int32) : Nat → Int32 → Int32 → Option (Int32)
  | 0, _, _ => none
  | n + 1, v2, v3 => bd (rf K μ v0 0 8) fun b1 => gd (inb 0 (K b1).2) <| if (μ.1 b1 (ix 0)) ≤ v3 then (some v2) else (bd (rf K μ v0 0 8) fun b4 => bd (f_X8_dotOf K μ b4 v3 v1) fun x6 => lt1 (α := Int32) (v2 + x6) fun x7 => lt1 (α := Int32) (v3 + 1) fun x8 => f_X8_sumOf_l4 K μ v0 v1 n x7 x8)
def f_X8_sumOf (K : Nat → Nat × Nat) (μ : Mm) (a0 : Nat) (a1 : Int32) : Option (Int32) :=
  bd (f_X8_sumOf_l4 K μ a0 a1 FU 0 0) fun q9 => lt1 q9 fun x10 => some x10
set_option maxRecDepth 100000 in
set_option maxHeartbeats 4000000 in
theorem gl_X8_sumOf_4 {l : Launch} {Z : ZZ} {X : XX} (v0 : Nat) (v1 : Int32) (k0 : (zk Z v0).1 = 6) (μ : Mm) (C : Cx l Z false X cX8_sumOf RX8 4 (some .int)) (E : xR X = rmm 1 0 0) : ∀ (n : Nat) (v2 : Int32) (v3 : Int32) (y : Int32), f_X8_sumOf_l4 (zk Z) μ v0 v1 n v2 v3 = some y → G Z X 4 0 0 32 [(2, .int y)] [] (μ) → G Z X 4 0 0 4 [(0, .ref (za Z v0)), (1, .int v1), (2, .int v2), (3, .int v3)] [] μ := by
  intro n
  induction n with
  | zero => intro v2 v3 y h he; unfold f_X8_sumOf_l4 at h; cases h
  | succ n ih =>
    intro v2 v3 y h he
    unfold f_X8_sumOf_l4 at h
    refine g_iload_n C (i := 3) 3 rfl rfl (dk kX8_sumOf 4 rfl) ?_
    refine g_aload_n C (i := 0) 0 rfl rfl (dk kX8_sumOf 5 rfl) ?_
    obtain ⟨b1, eb1, h⟩ := bd_inv h
    obtain ⟨rb1, kb1⟩ := rf_inv eb1
    refine gR_6_0 C k0 (C.w wd_5_3) rb1 (dk kX8_sumOf 6 rfl) ?_
    refine g_iconst C (v := 0) (by decide) (dk kX8_sumOf 7 rfl) ?_
    obtain ⟨c2, h⟩ := gd_inv h
    refine g_iald C kb1 c2 (dk kX8_sumOf 8 rfl) ?_
    refine g_icmp_ge C (tgt := 32) (dk kX8_sumOf 9 rfl) (by decide) (fun c3 => ?_) (fun c3 => ?_)
    · replace h := ite_t h c3
      cases h
      exact g_sub [2] rfl he
    · replace h := ite_f h c3
      refine g_iload_n C (i := 2) 2 rfl rfl (dk kX8_sumOf 10 rfl) ?_
      refine g_aload_n C (i := 0) 0 rfl rfl (dk kX8_sumOf 11 rfl) ?_
      obtain ⟨b4, eb4, h⟩ := bd_inv h
      obtain ⟨rb4, kb4⟩ := rf_inv eb4
      refine gR_6_0 C k0 (C.w wd_5_3) rb4 (dk kX8_sumOf 12 rfl) ?_
      refine g_iload_n C (i := 3) 3 rfl rfl (dk kX8_sumOf 13 rfl) ?_
      refine g_iload_n C (i := 1) 1 rfl rfl (dk kX8_sumOf 14 rfl) ?_
      obtain ⟨x6, eq5, h⟩ := bd_inv h
      refine g_callS C E (rest := [.int v2]) 3 (ct_X8_dotOf kb4 eq5) wd_5_60 mm_X8_dotOf ⟨by decide, by decide, by decide⟩ rfl (by decide) rfl (Nat.le_of_ble_eq_true rfl) (by decide) (dk kX8_sumOf 15 rfl) ?_
      refine g_iadd C (dk kX8_sumOf 16 rfl) ?_
      obtain ⟨x7, ex7, h⟩ := lt_inv h
      refine g_nmi ex7 ?_
      refine g_istore_n C (i := 2) (lv' := [(2, .int x7), (0, .ref (za Z v0)), (1, .int v1), (3, .int v3)]) (dk kX8_sumOf 17 rfl) rfl (by decide) rfl ?_
      obtain ⟨x8, ex8, h⟩ := lt_inv h
      refine g_iinc C (i := 3) (v := x8) (lv' := [(3, .int x8), (2, .int x7), (0, .ref (za Z v0)), (1, .int v1)]) 3 (dk kX8_sumOf 18 rfl) rfl (by rw [ex8]; rfl) (by decide) rfl ?_
      refine g_goto C (tgt := 4) (dk kX8_sumOf 19 rfl) (by decide) ?_
      exact g_sub [2, 3, 1, 0] rfl (ih x7 x8 y h he)
set_option maxRecDepth 100000 in
set_option maxHeartbeats 4000000 in
theorem t_X8_sumOf {l : Launch} {Z : ZZ} {X : XX} (μ : Mm) (a0 : Nat) (a1 : Int32) (r : Int32) (k0 : (zk Z a0).1 = 6) (h : f_X8_sumOf (zk Z) μ a0 a1 = some r) (C : Cx l Z false X cX8_sumOf RX8 4 (some .int)) (E : Ex Z X 1 0 0 (some (.int r)) Z μ) : G Z X 4 0 0 0 [(0, .ref (za Z a0)), (1, .int a1)] [] μ := by
  unfold f_X8_sumOf at h
  refine g_iconst C (v := 0) (by decide) (dk kX8_sumOf 0 rfl) ?_
  refine g_istore_n C (i := 2) (lv' := [(2, .int 0), (0, .ref (za Z a0)), (1, .int a1)]) (dk kX8_sumOf 1 rfl) rfl (by decide) rfl ?_
  refine g_iconst C (v := 0) (by decide) (dk kX8_sumOf 2 rfl) ?_
  refine g_istore_n C (i := 3) (lv' := [(3, .int 0), (2, .int 0), (0, .ref (za Z a0)), (1, .int a1)]) (dk kX8_sumOf 3 rfl) rfl (by decide) rfl ?_
  obtain ⟨q9, eq9, h⟩ := bd_inv h
  refine g_sub [2, 3, 1, 0] (lv' := [(0, .ref (za Z a0)), (1, .int a1), (2, .int 0), (3, .int 0)]) rfl ?_
  refine gl_X8_sumOf_4 a0 a1 k0 μ C E.2 FU 0 0 _ eq9 ?_
  obtain ⟨x10, ex10, h⟩ := lt_inv h
  rw [← ex10]
  refine g_iload_n C (i := 2) 0 rfl rfl (dk kX8_sumOf 20 rfl) ?_
  have h9 := Option.some.inj h
  subst h9
  exact g_iret C E rfl rfl (Nat.le_refl 0) (Nat.le_refl 0) (dk kX8_sumOf 21 rfl)
theorem ct_X8_sumOf {l : Launch} {Z : ZZ} {μ : Mm} {a0 : Nat} {a1 : Int32} {r : Int32} (k0 : (zk Z a0).1 = 6) (h : f_X8_sumOf (zk Z) μ a0 a1 = some r) : CtM l Z false yX8_sumOf cX8_sumOf 4 (some .int) 1 0 0 [.ref (za Z a0), .int a1] μ (some (.int r)) Z μ := ct_of rfl rfl (Nat.le_of_ble_eq_true rfl) (fun X C E => t_X8_sumOf μ a0 a1 r k0 h C E)

def qX8_begin : List (Nat × Instr × Nat) := [(0, .aload_n 0, 1), (1, .iload_n 1, 1), (2, .iconst 4, 1), (3, .bipush 24, 2), (5, .invokestatic 36, 3), (8, .ifCond .eq 7, 3), (11, .iconst 0, 1), (12, .goto 4, 3), (15, .iconst 1, 1), (16, .invokevirtual 44, 3), (19, .ifCond .eq 5, 3), (22, .iconst 0, 1), (23, .ireturn, 1), (24, .aload_n 0, 1), (25, .invokevirtual 48, 3), (28, .aload_n 0, 1), (29, .iconst 1, 1), (30, .invokevirtual 51, 3), (33, .istore_n 2, 1), (34, .bipush 14, 2), (36, .istore_n 3, 1), (37, .iload_n 3, 1), (38, .bipush 86, 2), (40, .if_icmp .ge 16, 3), (43, .aload_n 0, 1), (44, .getfield 7, 3), (47, .iload_n 3, 1), (48, .iconst 0, 1), (49, .iastore, 1), (50, .iinc 3 1, 3), (53, .goto (-16), 3), (56, .iconst 0, 1), (57, .istore_n 3, 1), (58, .iload_n 3, 1), (59, .aload_n 0, 1), (60, .getfield 7, 3), (63, .bipush 9, 2), (65, .iaload, 1), (66, .if_icmp .ge 14, 3), (69, .aload_n 0, 1), (70, .iload_n 3, 1), (71, .invokevirtual 55, 3), (74, .iinc 3 1, 3), (77, .goto (-19), 3), (80, .aload_n 0, 1), (81, .getfield 7, 3), (84, .iconst 0, 1), (85, .iload_n 1, 1), (86, .iastore, 1), (87, .iload_n 2, 1), (88, .ireturn, 1)]
theorem kX8_begin : ∀ q ∈ qX8_begin, decode cX8_begin q.1 = .ok q.2 := by decide +kernel
def f_X8_begin_l37 (K : Nat → Nat × Nat) (v0 : Nat) (v1 : Int32) (v2 : Int32) : Nat → Mm → Int32 → Option (Mm)
  | 0, _, _ => none
  | n + 1, μ, v3 => if 86 ≤ v3 then (some μ) else (bd (rf K μ v0 0 8) fun b14 => gd (inb v3 (K b14).2) <| lt1 (sI μ b14 (ix v3) 0) fun μ16 => lt1 (α := Int32) (v3 + 1) fun x17 => f_X8_begin_l37 K v0 v1 v2 n μ16 x17)
def f_X8_begin_l58 (K : Nat → Nat × Nat) (v0 : Nat) (v1 : Int32) (v2 : Int32) : Nat → Mm → Int32 → Option (Mm)
  | 0, _, _ => none
  | n + 1, μ, v3 => bd (rf K μ v0 0 8) fun b20 => gd (inb 9 (K b20).2) <| if (μ.1 b20 (ix 9)) ≤ v3 then (some μ) else (bd (f_X8_frees K μ v0 v3) fun μ24 => lt1 (α := Int32) (v3 + 1) fun x25 => f_X8_begin_l58 K v0 v1 v2 n μ24 x25)
def f_X8_begin (K : Nat → Nat × Nat) (μ : Mm) (a0 : Nat) (a1 : Int32) : Option (Int32 × Mm) :=
  bd (f_X8_in a1 4 24) fun x2 => lt1 (α := Int32) (if x2 = 0 then 1 else 0) fun x3 => bd (f_X8_throwsAt K μ a0 x3) fun q5 => lt1 q5.1 fun x7 => lt1 q5.2 fun μ6 => if x7 = 0 then (bd (f_X8_saves K μ6 a0) fun μ10 => bd (f_X8_sumOf K μ10 a0 1) fun x12 => bd (f_X8_begin_l37 K a0 a1 x12 FU μ10 14) fun q18 => lt1 q18 fun μ19 => bd (f_X8_begin_l58 K a0 a1 x12 FU μ19 0) fun q26 => lt1 q26 fun μ27 => bd (rf K μ27 a0 0 8) fun b28 => gd (inb 0 (K b28).2) <| lt1 (sI μ27 b28 (ix 0) a1) fun μ30 => some (x12, μ30)) else (some (0, μ6))
set_option maxRecDepth 100000 in
set_option maxHeartbeats 4000000 in
theorem gl_X8_begin_37 {l : Launch} {Z : ZZ} {X : XX} (v0 : Nat) (v1 : Int32) (v2 : Int32) (k0 : (zk Z v0).1 = 6) (C : Cx l Z false X cX8_begin RX8 4 (some .int)) (E : xR X = rmm 2 0 0) : ∀ (n : Nat) (μ : Mm) (v3 : Int32) (y : Mm), f_X8_begin_l37 (zk Z) v0 v1 v2 n μ v3 = some y → G Z X 4 0 0 56 [(0, .ref (za Z v0)), (1, .int v1), (2, .int v2)] [] y → G Z X 4 0 0 37 [(0, .ref (za Z v0)), (1, .int v1), (2, .int v2), (3, .int v3)] [] μ := by
  intro n
  induction n with
  | zero => intro μ v3 y h he; unfold f_X8_begin_l37 at h; cases h
  | succ n ih =>
    intro μ v3 y h he
    unfold f_X8_begin_l37 at h
    refine g_iload_n C (i := 3) 3 rfl rfl (dk kX8_begin 21 rfl) ?_
    refine g_bipush C (v := 86) (by decide) (dk kX8_begin 22 rfl) ?_
    refine g_icmp_ge C (tgt := 56) (dk kX8_begin 23 rfl) (by decide) (fun c13 => ?_) (fun c13 => ?_)
    · replace h := ite_t h c13
      cases h
      exact g_sub [0, 1, 2] rfl he
    · replace h := ite_f h c13
      refine g_aload_n C (i := 0) 0 rfl rfl (dk kX8_begin 24 rfl) ?_
      obtain ⟨b14, eb14, h⟩ := bd_inv h
      obtain ⟨rb14, kb14⟩ := rf_inv eb14
      refine gR_6_0 C k0 (C.w wd_5_3) rb14 (dk kX8_begin 25 rfl) ?_
      refine g_iload_n C (i := 3) 3 rfl rfl (dk kX8_begin 26 rfl) ?_
      refine g_iconst C (v := 0) (by decide) (dk kX8_begin 27 rfl) ?_
      obtain ⟨c15, h⟩ := gd_inv h
      obtain ⟨μ16, eμ16, h⟩ := lt_inv h
      refine g_iast C kb14 c15 eμ16 (dk kX8_begin 28 rfl) ?_
      obtain ⟨x17, ex17, h⟩ := lt_inv h
      refine g_iinc C (i := 3) (v := x17) (lv' := [(3, .int x17), (0, .ref (za Z v0)), (1, .int v1), (2, .int v2)]) 3 (dk kX8_begin 29 rfl) rfl (by rw [ex17]; rfl) (by decide) rfl ?_
      refine g_goto C (tgt := 37) (dk kX8_begin 30 rfl) (by decide) ?_
      exact g_sub [1, 2, 3, 0] rfl (ih μ16 x17 y h he)
set_option maxRecDepth 100000 in
set_option maxHeartbeats 4000000 in
theorem gl_X8_begin_58 {l : Launch} {Z : ZZ} {X : XX} (v0 : Nat) (v1 : Int32) (v2 : Int32) (k0 : (zk Z v0).1 = 6) (C : Cx l Z false X cX8_begin RX8 4 (some .int)) (E : xR X = rmm 2 0 0) : ∀ (n : Nat) (μ : Mm) (v3 : Int32) (y : Mm), f_X8_begin_l58 (zk Z) v0 v1 v2 n μ v3 = some y → G Z X 4 0 0 80 [(0, .ref (za Z v0)), (1, .int v1), (2, .int v2)] [] y → G Z X 4 0 0 58 [(0, .ref (za Z v0)), (1, .int v1), (2, .int v2), (3, .int v3)] [] μ := by
  intro n
  induction n with
  | zero => intro μ v3 y h he; unfold f_X8_begin_l58 at h; cases h
  | succ n ih =>
    intro μ v3 y h he
    unfold f_X8_begin_l58 at h
    refine g_iload_n C (i := 3) 3 rfl rfl (dk kX8_begin 33 rfl) ?_
    refine g_aload_n C (i := 0) 0 rfl rfl (dk kX8_begin 34 rfl) ?_
    obtain ⟨b20, eb20, h⟩ := bd_inv h
    obtain ⟨rb20, kb20⟩ := rf_inv eb20
    refine gR_6_0 C k0 (C.w wd_5_3) rb20 (dk kX8_begin 35 rfl) ?_
    refine g_bipush C (v := 9) (by decide) (dk kX8_begin 36 rfl) ?_
    obtain ⟨c21, h⟩ := gd_inv h
    refine g_iald C kb20 c21 (dk kX8_begin 37 rfl) ?_
    refine g_icmp_ge C (tgt := 80) (dk kX8_begin 38 rfl) (by decide) (fun c22 => ?_) (fun c22 => ?_)
    · replace h := ite_t h c22
      cases h
      exact g_sub [0, 1, 2] rfl he
    · replace h := ite_f h c22
      refine g_aload_n C (i := 0) 0 rfl rfl (dk kX8_begin 39 rfl) ?_
      refine g_iload_n C (i := 3) 3 rfl rfl (dk kX8_begin 40 rfl) ?_
      obtain ⟨μ24, eq23, h⟩ := bd_inv h
      refine g_callV C E (rest := []) 1 (ct_X8_frees k0 eq23) wd_5_63 mm_X8_frees ⟨rfl, by decide, by decide, by decide⟩ rfl (by decide) k0 (by decide) rfl rfl (Nat.le_of_ble_eq_true rfl) (by decide) (dk kX8_begin 41 rfl) ?_
      obtain ⟨x25, ex25, h⟩ := lt_inv h
      refine g_iinc C (i := 3) (v := x25) (lv' := [(3, .int x25), (0, .ref (za Z v0)), (1, .int v1), (2, .int v2)]) 3 (dk kX8_begin 42 rfl) rfl (by rw [ex25]; rfl) (by decide) rfl ?_
      refine g_goto C (tgt := 58) (dk kX8_begin 43 rfl) (by decide) ?_
      exact g_sub [1, 2, 3, 0] rfl (ih μ24 x25 y h he)
set_option maxRecDepth 100000 in
set_option maxHeartbeats 4000000 in
theorem t_X8_begin {l : Launch} {Z : ZZ} {X : XX} (μ : Mm) (a0 : Nat) (a1 : Int32) (r : Int32) (μ' : Mm) (k0 : (zk Z a0).1 = 6) (h : f_X8_begin (zk Z) μ a0 a1 = some (r, μ')) (C : Cx l Z false X cX8_begin RX8 4 (some .int)) (E : Ex Z X 2 0 0 (some (.int r)) Z μ') : G Z X 4 0 0 0 [(0, .ref (za Z a0)), (1, .int a1)] [] μ := by
  unfold f_X8_begin at h
  refine g_aload_n C (i := 0) 0 rfl rfl (dk kX8_begin 0 rfl) ?_
  refine g_iload_n C (i := 1) 1 rfl rfl (dk kX8_begin 1 rfl) ?_
  refine g_iconst C (v := 4) (by decide) (dk kX8_begin 2 rfl) ?_
  refine g_bipush C (v := 24) (by decide) (dk kX8_begin 3 rfl) ?_
  obtain ⟨x2, eq1, h⟩ := bd_inv h
  refine g_callS C E.2 (rest := [.ref (za Z a0)]) 3 (ct_X8_in  eq1) wd_5_45 mm_X8_in ⟨by decide, by decide, by decide⟩ rfl (by decide) rfl (Nat.le_of_ble_eq_true rfl) (by decide) (dk kX8_begin 4 rfl) ?_
  obtain ⟨x3, ex3, h⟩ := lt_inv h
  have kj4 : G Z X 4 0 0 16 [(0, .ref (za Z a0)), (1, .int a1)] [.int x3, .ref (za Z a0)] μ := by
    obtain ⟨q5, eq5, h⟩ := bd_inv h
    obtain ⟨x7, ex7, h⟩ := lt_inv h
    obtain ⟨μ6, eμ6, h⟩ := lt_inv h
    rw [show q5 = (x7, μ6) from by rw [ex7, eμ6]] at eq5
    refine g_callV C E.2 (rest := []) 1 (ct_X8_throwsAt k0 eq5) wd_5_48 mm_X8_throwsAt ⟨rfl, by decide, by decide, by decide⟩ rfl (by decide) k0 (by decide) rfl rfl (Nat.le_of_ble_eq_true rfl) (by decide) (dk kX8_begin 9 rfl) ?_
    refine g_if_eq C (tgt := 24) (dk kX8_begin 10 rfl) (by decide) (fun c8 => ?_) (fun c8 => ?_)
    · replace h := ite_t h c8
      refine g_aload_n C (i := 0) 0 rfl rfl (dk kX8_begin 13 rfl) ?_
      obtain ⟨μ10, eq9, h⟩ := bd_inv h
      refine g_callV C E.2 (rest := []) 0 (ct_X8_saves k0 eq9) wd_5_52 mm_X8_saves ⟨rfl, by decide, by decide, by decide⟩ rfl (by decide) k0 (by decide) rfl rfl (Nat.le_of_ble_eq_true rfl) (by decide) (dk kX8_begin 14 rfl) ?_
      refine g_aload_n C (i := 0) 0 rfl rfl (dk kX8_begin 15 rfl) ?_
      refine g_iconst C (v := 1) (by decide) (dk kX8_begin 16 rfl) ?_
      obtain ⟨x12, eq11, h⟩ := bd_inv h
      refine g_callV C E.2 (rest := []) 1 (ct_X8_sumOf k0 eq11) wd_5_56 mm_X8_sumOf ⟨rfl, by decide, by decide, by decide⟩ rfl (by decide) k0 (by decide) rfl rfl (Nat.le_of_ble_eq_true rfl) (by decide) (dk kX8_begin 17 rfl) ?_
      refine g_istore_n C (i := 2) (lv' := [(2, .int x12), (0, .ref (za Z a0)), (1, .int a1)]) (dk kX8_begin 18 rfl) rfl (by decide) rfl ?_
      refine g_bipush C (v := 14) (by decide) (dk kX8_begin 19 rfl) ?_
      refine g_istore_n C (i := 3) (lv' := [(3, .int 14), (2, .int x12), (0, .ref (za Z a0)), (1, .int a1)]) (dk kX8_begin 20 rfl) rfl (by decide) rfl ?_
      obtain ⟨q18, eq18, h⟩ := bd_inv h
      refine g_sub [2, 3, 1, 0] (lv' := [(0, .ref (za Z a0)), (1, .int a1), (2, .int x12), (3, .int 14)]) rfl ?_
      refine gl_X8_begin_37 a0 a1 x12 k0 C E.2 FU μ10 14 _ eq18 ?_
      obtain ⟨μ19, eμ19, h⟩ := lt_inv h
      rw [← eμ19]
      refine g_iconst C (v := 0) (by decide) (dk kX8_begin 31 rfl) ?_
      refine g_istore_n C (i := 3) (lv' := [(3, .int 0), (0, .ref (za Z a0)), (1, .int a1), (2, .int x12)]) (dk kX8_begin 32 rfl) rfl (by decide) rfl ?_
      obtain ⟨q26, eq26, h⟩ := bd_inv h
      refine g_sub [1, 2, 3, 0] (lv' := [(0, .ref (za Z a0)), (1, .int a1), (2, .int x12), (3, .int 0)]) rfl ?_
      refine gl_X8_begin_58 a0 a1 x12 k0 C E.2 FU μ19 0 _ eq26 ?_
      obtain ⟨μ27, eμ27, h⟩ := lt_inv h
      rw [← eμ27]
      refine g_aload_n C (i := 0) 0 rfl rfl (dk kX8_begin 44 rfl) ?_
      obtain ⟨b28, eb28, h⟩ := bd_inv h
      obtain ⟨rb28, kb28⟩ := rf_inv eb28
      refine gR_6_0 C k0 (C.w wd_5_3) rb28 (dk kX8_begin 45 rfl) ?_
      refine g_iconst C (v := 0) (by decide) (dk kX8_begin 46 rfl) ?_
      refine g_iload_n C (i := 1) 1 rfl rfl (dk kX8_begin 47 rfl) ?_
      obtain ⟨c29, h⟩ := gd_inv h
      obtain ⟨μ30, eμ30, h⟩ := lt_inv h
      refine g_iast C kb28 c29 eμ30 (dk kX8_begin 48 rfl) ?_
      refine g_iload_n C (i := 2) 2 rfl rfl (dk kX8_begin 49 rfl) ?_
      obtain ⟨h8, h9⟩ := Prod.mk.inj (Option.some.inj h)
      subst h8
      subst h9
      exact g_iret C E rfl rfl (Nat.le_refl 0) (Nat.le_refl 0) (dk kX8_begin 50 rfl)
    · replace h := ite_f h c8
      refine g_iconst C (v := 0) (by decide) (dk kX8_begin 11 rfl) ?_
      obtain ⟨h8, h9⟩ := Prod.mk.inj (Option.some.inj h)
      subst h8
      subst h9
      exact g_iret C E rfl rfl (Nat.le_refl 0) (Nat.le_refl 0) (dk kX8_begin 12 rfl)
  clear h
  refine g_if_eq C (tgt := 15) (dk kX8_begin 5 rfl) (by decide) (fun c31 => ?_) (fun c31 => ?_)
  · refine g_iconst C (v := 1) (by decide) (dk kX8_begin 8 rfl) ?_
    exact g_nmi (by rw [ex3, if_pos c31]) kj4
  · refine g_iconst C (v := 0) (by decide) (dk kX8_begin 6 rfl) ?_
    refine g_goto C (tgt := 16) (dk kX8_begin 7 rfl) (by decide) ?_
    exact g_nmi (by rw [ex3, if_neg c31]) kj4
theorem ct_X8_begin {l : Launch} {Z : ZZ} {μ : Mm} {a0 : Nat} {a1 : Int32} {r : Int32} {μ' : Mm} (k0 : (zk Z a0).1 = 6) (h : f_X8_begin (zk Z) μ a0 a1 = some (r, μ')) : CtM l Z false yX8_begin cX8_begin 4 (some .int) 2 0 0 [.ref (za Z a0), .int a1] μ (some (.int r)) Z μ' := ct_of rfl rfl (Nat.le_of_ble_eq_true rfl) (fun X C E => t_X8_begin μ a0 a1 r μ' k0 h C E)

def qX8_customerOf : List (Nat × Instr × Nat) := [(0, .aload_n 0, 1), (1, .getfield 7, 3), (4, .sipush 146, 3), (7, .bipush 6, 2), (9, .iload_n 1, 1), (10, .imul, 1), (11, .iadd, 1), (12, .iload_n 2, 1), (13, .iadd, 1), (14, .iaload, 1), (15, .ireturn, 1)]
theorem kX8_customerOf : ∀ q ∈ qX8_customerOf, decode cX8_customerOf q.1 = .ok q.2 := by decide +kernel
def f_X8_customerOf (K : Nat → Nat × Nat) (μ : Mm) (a0 : Nat) (a1 : Int32) (a2 : Int32) : Option (Int32) :=
  bd (rf K μ a0 0 8) fun b1 => gd (inb ((146 + (6 * a1)) + a2) (K b1).2) <| some (μ.1 b1 (ix ((146 + (6 * a1)) + a2)))
set_option maxRecDepth 100000 in
set_option maxHeartbeats 4000000 in
theorem t_X8_customerOf {l : Launch} {Z : ZZ} {X : XX} (μ : Mm) (a0 : Nat) (a1 : Int32) (a2 : Int32) (r : Int32) (k0 : (zk Z a0).1 = 6) (h : f_X8_customerOf (zk Z) μ a0 a1 a2 = some r) (C : Cx l Z false X cX8_customerOf RX8 3 (some .int)) (E : Ex Z X 0 0 0 (some (.int r)) Z μ) : G Z X 3 0 0 0 [(0, .ref (za Z a0)), (1, .int a1), (2, .int a2)] [] μ := by
  unfold f_X8_customerOf at h
  refine g_aload_n C (i := 0) 0 rfl rfl (dk kX8_customerOf 0 rfl) ?_
  obtain ⟨b1, eb1, h⟩ := bd_inv h
  obtain ⟨rb1, kb1⟩ := rf_inv eb1
  refine gR_6_0 C k0 (C.w wd_5_3) rb1 (dk kX8_customerOf 1 rfl) ?_
  refine g_sipush C (v := 146) (by decide) (dk kX8_customerOf 2 rfl) ?_
  refine g_bipush C (v := 6) (by decide) (dk kX8_customerOf 3 rfl) ?_
  refine g_iload_n C (i := 1) 1 rfl rfl (dk kX8_customerOf 4 rfl) ?_
  refine g_imul C (dk kX8_customerOf 5 rfl) ?_
  refine g_iadd C (dk kX8_customerOf 6 rfl) ?_
  refine g_iload_n C (i := 2) 2 rfl rfl (dk kX8_customerOf 7 rfl) ?_
  refine g_iadd C (dk kX8_customerOf 8 rfl) ?_
  obtain ⟨c2, h⟩ := gd_inv h
  refine g_iald C kb1 c2 (dk kX8_customerOf 9 rfl) ?_
  have h9 := Option.some.inj h
  subst h9
  exact g_iret C E rfl rfl (Nat.le_refl 0) (Nat.le_refl 0) (dk kX8_customerOf 10 rfl)
theorem ct_X8_customerOf {l : Launch} {Z : ZZ} {μ : Mm} {a0 : Nat} {a1 : Int32} {a2 : Int32} {r : Int32} (k0 : (zk Z a0).1 = 6) (h : f_X8_customerOf (zk Z) μ a0 a1 a2 = some r) : CtM l Z false yX8_customerOf cX8_customerOf 3 (some .int) 0 0 0 [.ref (za Z a0), .int a1, .int a2] μ (some (.int r)) Z μ := ct_of rfl rfl (Nat.le_of_ble_eq_true rfl) (fun X C E => t_X8_customerOf μ a0 a1 a2 r k0 h C E)

def qX8_renter : List (Nat × Instr × Nat) := [(0, .iconst (-1), 1), (1, .istore_n 2, 1), (2, .iconst 0, 1), (3, .istore_n 3, 1), (4, .iload_n 3, 1), (5, .aload_n 0, 1), (6, .getfield 7, 3), (9, .bipush 9, 2), (11, .iaload, 1), (12, .if_icmp .ge 44, 3), (15, .aload_n 0, 1), (16, .iload_n 3, 1), (17, .iconst 0, 1), (18, .invokevirtual 79, 3), (21, .iconst (-1), 1), (22, .if_icmp .eq 26, 3), (25, .iload_n 1, 1), (26, .aload_n 0, 1), (27, .iload_n 3, 1), (28, .iconst 0, 1), (29, .invokevirtual 79, 3), (32, .aload_n 0, 1), (33, .iload_n 3, 1), (34, .iconst 1, 1), (35, .invokevirtual 79, 3), (38, .invokestatic 36, 3), (41, .ifCond .eq 7, 3), (44, .iload_n 3, 1), (45, .goto 4, 3), (48, .iload_n 2, 1), (49, .istore_n 2, 1), (50, .iinc 3 1, 3), (53, .goto (-49), 3), (56, .iload_n 2, 1), (57, .ireturn, 1)]
theorem kX8_renter : ∀ q ∈ qX8_renter, decode cX8_renter q.1 = .ok q.2 := by decide +kernel
def f_X8_renter_l4 (K : Nat → Nat × Nat) (μ : Mm) (v0 : Nat) (v1 : Int32) : Nat → Int32 → Int32 → Option (Int32)
  | 0, _, _ => none
  | n + 1, v2, v3 => bd (rf K μ v0 0 8) fun b1 => gd (inb 9 (K b1).2) <| if (μ.1 b1 (ix 9)) ≤ v3 then (some v2) else (bd (f_X8_customerOf K μ v0 v3 0) fun x5 => if x5 = (-1) then (lt1 (α := Int32) (v3 + 1) fun x7 => f_X8_renter_l4 K μ v0 v1 n v2 x7) else (bd (f_X8_customerOf K μ v0 v3 0) fun x9 => bd (f_X8_customerOf K μ v0 v3 1) fun x11 => bd (f_X8_in v1 x9 x11) fun x13 => lt1 (α := Int32) (if x13 = 0 then v2 else v3) fun x14 => lt1 (α := Int32) (v3 + 1) fun x16 => f_X8_renter_l4 K μ v0 v1 n x14 x16))
def f_X8_renter (K : Nat → Nat × Nat) (μ : Mm) (a0 : Nat) (a1 : Int32) : Option (Int32) :=
  bd (f_X8_renter_l4 K μ a0 a1 FU (-1) 0) fun q18 => lt1 q18 fun x19 => some x19
set_option maxRecDepth 100000 in
set_option maxHeartbeats 4000000 in
theorem gl_X8_renter_4 {l : Launch} {Z : ZZ} {X : XX} (v0 : Nat) (v1 : Int32) (k0 : (zk Z v0).1 = 6) (μ : Mm) (C : Cx l Z false X cX8_renter RX8 4 (some .int)) (E : xR X = rmm 1 0 0) : ∀ (n : Nat) (v2 : Int32) (v3 : Int32) (y : Int32), f_X8_renter_l4 (zk Z) μ v0 v1 n v2 v3 = some y → G Z X 4 0 0 56 [(2, .int y)] [] (μ) → G Z X 4 0 0 4 [(0, .ref (za Z v0)), (1, .int v1), (2, .int v2), (3, .int v3)] [] μ := by
  intro n
  induction n with
  | zero => intro v2 v3 y h he; unfold f_X8_renter_l4 at h; cases h
  | succ n ih =>
    intro v2 v3 y h he
    unfold f_X8_renter_l4 at h
    refine g_iload_n C (i := 3) 3 rfl rfl (dk kX8_renter 4 rfl) ?_
    refine g_aload_n C (i := 0) 0 rfl rfl (dk kX8_renter 5 rfl) ?_
    obtain ⟨b1, eb1, h⟩ := bd_inv h
    obtain ⟨rb1, kb1⟩ := rf_inv eb1
    refine gR_6_0 C k0 (C.w wd_5_3) rb1 (dk kX8_renter 6 rfl) ?_
    refine g_bipush C (v := 9) (by decide) (dk kX8_renter 7 rfl) ?_
    obtain ⟨c2, h⟩ := gd_inv h
    refine g_iald C kb1 c2 (dk kX8_renter 8 rfl) ?_
    refine g_icmp_ge C (tgt := 56) (dk kX8_renter 9 rfl) (by decide) (fun c3 => ?_) (fun c3 => ?_)
    · replace h := ite_t h c3
      cases h
      exact g_sub [2] rfl he
    · replace h := ite_f h c3
      refine g_aload_n C (i := 0) 0 rfl rfl (dk kX8_renter 10 rfl) ?_
      refine g_iload_n C (i := 3) 3 rfl rfl (dk kX8_renter 11 rfl) ?_
      refine g_iconst C (v := 0) (by decide) (dk kX8_renter 12 rfl) ?_
      obtain ⟨x5, eq4, h⟩ := bd_inv h
      refine g_callV C E (rest := []) 2 (ct_X8_customerOf k0 eq4) wd_5_128 mm_X8_customerOf ⟨rfl, by decide, by decide, by decide⟩ rfl (by decide) k0 (by decide) rfl rfl (Nat.le_of_ble_eq_true rfl) (by decide) (dk kX8_renter 13 rfl) ?_
      refine g_iconst C (v := (-1)) (by decide) (dk kX8_renter 14 rfl) ?_
      refine g_icmp_eq C (tgt := 48) (dk kX8_renter 15 rfl) (by decide) (fun c6 => ?_) (fun c6 => ?_)
      · replace h := ite_t h c6
        refine g_iload_n C (i := 2) 2 rfl rfl (dk kX8_renter 29 rfl) ?_
        refine g_istore_n C (i := 2) (lv' := [(2, .int v2), (0, .ref (za Z v0)), (1, .int v1), (3, .int v3)]) (dk kX8_renter 30 rfl) rfl (by decide) rfl ?_
        obtain ⟨x7, ex7, h⟩ := lt_inv h
        refine g_iinc C (i := 3) (v := x7) (lv' := [(3, .int x7), (2, .int v2), (0, .ref (za Z v0)), (1, .int v1)]) 3 (dk kX8_renter 31 rfl) rfl (by rw [ex7]; rfl) (by decide) rfl ?_
        refine g_goto C (tgt := 4) (dk kX8_renter 32 rfl) (by decide) ?_
        exact g_sub [2, 3, 1, 0] rfl (ih v2 x7 y h he)
      · replace h := ite_f h c6
        refine g_iload_n C (i := 1) 1 rfl rfl (dk kX8_renter 16 rfl) ?_
        refine g_aload_n C (i := 0) 0 rfl rfl (dk kX8_renter 17 rfl) ?_
        refine g_iload_n C (i := 3) 3 rfl rfl (dk kX8_renter 18 rfl) ?_
        refine g_iconst C (v := 0) (by decide) (dk kX8_renter 19 rfl) ?_
        obtain ⟨x9, eq8, h⟩ := bd_inv h
        refine g_callV C E (rest := [.int v1]) 2 (ct_X8_customerOf k0 eq8) wd_5_128 mm_X8_customerOf ⟨rfl, by decide, by decide, by decide⟩ rfl (by decide) k0 (by decide) rfl rfl (Nat.le_of_ble_eq_true rfl) (by decide) (dk kX8_renter 20 rfl) ?_
        refine g_aload_n C (i := 0) 0 rfl rfl (dk kX8_renter 21 rfl) ?_
        refine g_iload_n C (i := 3) 3 rfl rfl (dk kX8_renter 22 rfl) ?_
        refine g_iconst C (v := 1) (by decide) (dk kX8_renter 23 rfl) ?_
        obtain ⟨x11, eq10, h⟩ := bd_inv h
        refine g_callV C E (rest := [.int x9, .int v1]) 2 (ct_X8_customerOf k0 eq10) wd_5_128 mm_X8_customerOf ⟨rfl, by decide, by decide, by decide⟩ rfl (by decide) k0 (by decide) rfl rfl (Nat.le_of_ble_eq_true rfl) (by decide) (dk kX8_renter 24 rfl) ?_
        obtain ⟨x13, eq12, h⟩ := bd_inv h
        refine g_callS C E (rest := []) 3 (ct_X8_in  eq12) wd_5_45 mm_X8_in ⟨by decide, by decide, by decide⟩ rfl (by decide) rfl (Nat.le_of_ble_eq_true rfl) (by decide) (dk kX8_renter 25 rfl) ?_
        obtain ⟨x14, ex14, h⟩ := lt_inv h
        have kj15 : G Z X 4 0 0 49 [(0, .ref (za Z v0)), (1, .int v1), (2, .int v2), (3, .int v3)] [.int x14] μ := by
          refine g_istore_n C (i := 2) (lv' := [(2, .int x14), (0, .ref (za Z v0)), (1, .int v1), (3, .int v3)]) (dk kX8_renter 30 rfl) rfl (by decide) rfl ?_
          obtain ⟨x16, ex16, h⟩ := lt_inv h
          refine g_iinc C (i := 3) (v := x16) (lv' := [(3, .int x16), (2, .int x14), (0, .ref (za Z v0)), (1, .int v1)]) 3 (dk kX8_renter 31 rfl) rfl (by rw [ex16]; rfl) (by decide) rfl ?_
          refine g_goto C (tgt := 4) (dk kX8_renter 32 rfl) (by decide) ?_
          exact g_sub [2, 3, 1, 0] rfl (ih x14 x16 y h he)
        clear h
        refine g_if_eq C (tgt := 48) (dk kX8_renter 26 rfl) (by decide) (fun c17 => ?_) (fun c17 => ?_)
        · refine g_iload_n C (i := 2) 2 rfl rfl (dk kX8_renter 29 rfl) ?_
          exact g_nmi (by rw [ex14, if_pos c17]) kj15
        · refine g_iload_n C (i := 3) 3 rfl rfl (dk kX8_renter 27 rfl) ?_
          refine g_goto C (tgt := 49) (dk kX8_renter 28 rfl) (by decide) ?_
          exact g_nmi (by rw [ex14, if_neg c17]) kj15
set_option maxRecDepth 100000 in
set_option maxHeartbeats 4000000 in
theorem t_X8_renter {l : Launch} {Z : ZZ} {X : XX} (μ : Mm) (a0 : Nat) (a1 : Int32) (r : Int32) (k0 : (zk Z a0).1 = 6) (h : f_X8_renter (zk Z) μ a0 a1 = some r) (C : Cx l Z false X cX8_renter RX8 4 (some .int)) (E : Ex Z X 1 0 0 (some (.int r)) Z μ) : G Z X 4 0 0 0 [(0, .ref (za Z a0)), (1, .int a1)] [] μ := by
  unfold f_X8_renter at h
  refine g_iconst C (v := (-1)) (by decide) (dk kX8_renter 0 rfl) ?_
  refine g_istore_n C (i := 2) (lv' := [(2, .int (-1)), (0, .ref (za Z a0)), (1, .int a1)]) (dk kX8_renter 1 rfl) rfl (by decide) rfl ?_
  refine g_iconst C (v := 0) (by decide) (dk kX8_renter 2 rfl) ?_
  refine g_istore_n C (i := 3) (lv' := [(3, .int 0), (2, .int (-1)), (0, .ref (za Z a0)), (1, .int a1)]) (dk kX8_renter 3 rfl) rfl (by decide) rfl ?_
  obtain ⟨q18, eq18, h⟩ := bd_inv h
  refine g_sub [2, 3, 1, 0] (lv' := [(0, .ref (za Z a0)), (1, .int a1), (2, .int (-1)), (3, .int 0)]) rfl ?_
  refine gl_X8_renter_4 a0 a1 k0 μ C E.2 FU (-1) 0 _ eq18 ?_
  obtain ⟨x19, ex19, h⟩ := lt_inv h
  rw [← ex19]
  refine g_iload_n C (i := 2) 0 rfl rfl (dk kX8_renter 33 rfl) ?_
  have h9 := Option.some.inj h
  subst h9
  exact g_iret C E rfl rfl (Nat.le_refl 0) (Nat.le_refl 0) (dk kX8_renter 34 rfl)
theorem ct_X8_renter {l : Launch} {Z : ZZ} {μ : Mm} {a0 : Nat} {a1 : Int32} {r : Int32} (k0 : (zk Z a0).1 = 6) (h : f_X8_renter (zk Z) μ a0 a1 = some r) : CtM l Z false yX8_renter cX8_renter 4 (some .int) 1 0 0 [.ref (za Z a0), .int a1] μ (some (.int r)) Z μ := ct_of rfl rfl (Nat.le_of_ble_eq_true rfl) (fun X C E => t_X8_renter μ a0 a1 r k0 h C E)

def qX8_isTaken : List (Nat × Instr × Nat) := [(0, .iconst 0, 1), (1, .istore 4, 2), (3, .iload_n 2, 1), (4, .istore 5, 2), (6, .iload 5, 2), (8, .iload_n 3, 1), (9, .if_icmp .gt 41, 3), (12, .iload 4, 2), (14, .ifCond .ne 23, 3), (17, .aload_n 0, 1), (18, .iload 5, 2), (20, .invokevirtual 82, 3), (23, .iconst (-1), 1), (24, .if_icmp .eq 17, 3), (27, .aload_n 0, 1), (28, .iload 5, 2), (30, .invokevirtual 82, 3), (33, .iload_n 1, 1), (34, .if_icmp .eq 7, 3), (37, .iconst 1, 1), (38, .goto 4, 3), (41, .iconst 0, 1), (42, .istore 4, 2), (44, .iinc 5 1, 3), (47, .goto (-41), 3), (50, .iload 4, 2), (52, .ireturn, 1)]
theorem kX8_isTaken : ∀ q ∈ qX8_isTaken, decode cX8_isTaken q.1 = .ok q.2 := by decide +kernel
def f_X8_isTaken_l6 (K : Nat → Nat × Nat) (μ : Mm) (v0 : Nat) (v1 : Int32) (v3 : Int32) : Nat → Int32 → Int32 → Option (Int32)
  | 0, _, _ => none
  | n + 1, v4, v5 => if v3 < v5 then (some v4) else (if v4 = 0 then (bd (f_X8_renter K μ v0 v5) fun x5 => if x5 = (-1) then (lt1 (α := Int32) (v5 + 1) fun x7 => f_X8_isTaken_l6 K μ v0 v1 v3 n 0 x7) else (bd (f_X8_renter K μ v0 v5) fun x9 => lt1 (α := Int32) (if x9 = v1 then 0 else 1) fun x10 => lt1 (α := Int32) (v5 + 1) fun x12 => f_X8_isTaken_l6 K μ v0 v1 v3 n x10 x12)) else (lt1 (α := Int32) (v5 + 1) fun x3 => f_X8_isTaken_l6 K μ v0 v1 v3 n 1 x3))
def f_X8_isTaken (K : Nat → Nat × Nat) (μ : Mm) (a0 : Nat) (a1 : Int32) (a2 : Int32) (a3 : Int32) : Option (Int32) :=
  bd (f_X8_isTaken_l6 K μ a0 a1 a3 FU 0 a2) fun q14 => lt1 q14 fun x15 => gd (x15 = 0 ∨ x15 = 1) <| some x15
set_option maxRecDepth 100000 in
set_option maxHeartbeats 4000000 in
theorem gl_X8_isTaken_6 {l : Launch} {Z : ZZ} {X : XX} (v0 : Nat) (v1 : Int32) (v3 : Int32) (k0 : (zk Z v0).1 = 6) (μ : Mm) (C : Cx l Z false X cX8_isTaken RX8 6 (some .boolean)) (E : xR X = rmm 2 0 0) : ∀ (n : Nat) (v4 : Int32) (v5 : Int32) (y : Int32), f_X8_isTaken_l6 (zk Z) μ v0 v1 v3 n v4 v5 = some y → G Z X 6 0 0 50 [(4, .int y)] [] (μ) → G Z X 6 0 0 6 [(0, .ref (za Z v0)), (1, .int v1), (3, .int v3), (4, .int v4), (5, .int v5)] [] μ := by
  intro n
  induction n with
  | zero => intro v4 v5 y h he; unfold f_X8_isTaken_l6 at h; cases h
  | succ n ih =>
    intro v4 v5 y h he
    unfold f_X8_isTaken_l6 at h
    refine g_iload C (i := 5) 4 rfl (dk kX8_isTaken 4 rfl) ?_
    refine g_iload_n C (i := 3) 2 rfl rfl (dk kX8_isTaken 5 rfl) ?_
    refine g_icmp_gt C (tgt := 50) (dk kX8_isTaken 6 rfl) (by decide) (fun c1 => ?_) (fun c1 => ?_)
    · replace h := ite_t h c1
      cases h
      exact g_sub [3] rfl he
    · replace h := ite_f h c1
      refine g_iload C (i := 4) 3 rfl (dk kX8_isTaken 7 rfl) ?_
      refine g_if_ne C (tgt := 37) (dk kX8_isTaken 8 rfl) (by decide) (fun c2 => ?_) (fun c2 => ?_)
      · replace h := ite_f h c2
        refine g_iconst C (v := 1) (by decide) (dk kX8_isTaken 19 rfl) ?_
        refine g_goto C (tgt := 42) (dk kX8_isTaken 20 rfl) (by decide) ?_
        refine g_istore C (i := 4) (lv' := [(4, .int 1), (0, .ref (za Z v0)), (1, .int v1), (3, .int v3), (5, .int v5)]) (dk kX8_isTaken 22 rfl) (by decide) rfl ?_
        obtain ⟨x3, ex3, h⟩ := lt_inv h
        refine g_iinc C (i := 5) (v := x3) (lv' := [(5, .int x3), (4, .int 1), (0, .ref (za Z v0)), (1, .int v1), (3, .int v3)]) 4 (dk kX8_isTaken 23 rfl) rfl (by rw [ex3]; rfl) (by decide) rfl ?_
        refine g_goto C (tgt := 6) (dk kX8_isTaken 24 rfl) (by decide) ?_
        exact g_sub [2, 3, 4, 1, 0] rfl (ih 1 x3 y h he)
      · replace h := ite_t h c2
        refine g_aload_n C (i := 0) 0 rfl rfl (dk kX8_isTaken 9 rfl) ?_
        refine g_iload C (i := 5) 4 rfl (dk kX8_isTaken 10 rfl) ?_
        obtain ⟨x5, eq4, h⟩ := bd_inv h
        refine g_callV C E (rest := []) 1 (ct_X8_renter k0 eq4) wd_5_124 mm_X8_renter ⟨rfl, by decide, by decide, by decide⟩ rfl (by decide) k0 (by decide) rfl rfl (Nat.le_of_ble_eq_true rfl) (by decide) (dk kX8_isTaken 11 rfl) ?_
        refine g_iconst C (v := (-1)) (by decide) (dk kX8_isTaken 12 rfl) ?_
        refine g_icmp_eq C (tgt := 41) (dk kX8_isTaken 13 rfl) (by decide) (fun c6 => ?_) (fun c6 => ?_)
        · replace h := ite_t h c6
          refine g_iconst C (v := 0) (by decide) (dk kX8_isTaken 21 rfl) ?_
          refine g_istore C (i := 4) (lv' := [(4, .int 0), (0, .ref (za Z v0)), (1, .int v1), (3, .int v3), (5, .int v5)]) (dk kX8_isTaken 22 rfl) (by decide) rfl ?_
          obtain ⟨x7, ex7, h⟩ := lt_inv h
          refine g_iinc C (i := 5) (v := x7) (lv' := [(5, .int x7), (4, .int 0), (0, .ref (za Z v0)), (1, .int v1), (3, .int v3)]) 4 (dk kX8_isTaken 23 rfl) rfl (by rw [ex7]; rfl) (by decide) rfl ?_
          refine g_goto C (tgt := 6) (dk kX8_isTaken 24 rfl) (by decide) ?_
          exact g_sub [2, 3, 4, 1, 0] rfl (ih 0 x7 y h he)
        · replace h := ite_f h c6
          refine g_aload_n C (i := 0) 0 rfl rfl (dk kX8_isTaken 14 rfl) ?_
          refine g_iload C (i := 5) 4 rfl (dk kX8_isTaken 15 rfl) ?_
          obtain ⟨x9, eq8, h⟩ := bd_inv h
          refine g_callV C E (rest := []) 1 (ct_X8_renter k0 eq8) wd_5_124 mm_X8_renter ⟨rfl, by decide, by decide, by decide⟩ rfl (by decide) k0 (by decide) rfl rfl (Nat.le_of_ble_eq_true rfl) (by decide) (dk kX8_isTaken 16 rfl) ?_
          refine g_iload_n C (i := 1) 1 rfl rfl (dk kX8_isTaken 17 rfl) ?_
          obtain ⟨x10, ex10, h⟩ := lt_inv h
          have kj11 : G Z X 6 0 0 42 [(0, .ref (za Z v0)), (1, .int v1), (3, .int v3), (4, .int v4), (5, .int v5)] [.int x10] μ := by
            refine g_istore C (i := 4) (lv' := [(4, .int x10), (0, .ref (za Z v0)), (1, .int v1), (3, .int v3), (5, .int v5)]) (dk kX8_isTaken 22 rfl) (by decide) rfl ?_
            obtain ⟨x12, ex12, h⟩ := lt_inv h
            refine g_iinc C (i := 5) (v := x12) (lv' := [(5, .int x12), (4, .int x10), (0, .ref (za Z v0)), (1, .int v1), (3, .int v3)]) 4 (dk kX8_isTaken 23 rfl) rfl (by rw [ex12]; rfl) (by decide) rfl ?_
            refine g_goto C (tgt := 6) (dk kX8_isTaken 24 rfl) (by decide) ?_
            exact g_sub [2, 3, 4, 1, 0] rfl (ih x10 x12 y h he)
          clear h
          refine g_icmp_eq C (tgt := 41) (dk kX8_isTaken 18 rfl) (by decide) (fun c13 => ?_) (fun c13 => ?_)
          · refine g_iconst C (v := 0) (by decide) (dk kX8_isTaken 21 rfl) ?_
            exact g_nmi (by rw [ex10, if_pos c13]) kj11
          · refine g_iconst C (v := 1) (by decide) (dk kX8_isTaken 19 rfl) ?_
            refine g_goto C (tgt := 42) (dk kX8_isTaken 20 rfl) (by decide) ?_
            exact g_nmi (by rw [ex10, if_neg c13]) kj11
set_option maxRecDepth 100000 in
set_option maxHeartbeats 4000000 in
theorem t_X8_isTaken {l : Launch} {Z : ZZ} {X : XX} (μ : Mm) (a0 : Nat) (a1 : Int32) (a2 : Int32) (a3 : Int32) (r : Int32) (k0 : (zk Z a0).1 = 6) (h : f_X8_isTaken (zk Z) μ a0 a1 a2 a3 = some r) (C : Cx l Z false X cX8_isTaken RX8 6 (some .boolean)) (E : Ex Z X 2 0 0 (some (.int r)) Z μ) : G Z X 6 0 0 0 [(0, .ref (za Z a0)), (1, .int a1), (2, .int a2), (3, .int a3)] [] μ := by
  unfold f_X8_isTaken at h
  refine g_iconst C (v := 0) (by decide) (dk kX8_isTaken 0 rfl) ?_
  refine g_istore C (i := 4) (lv' := [(4, .int 0), (0, .ref (za Z a0)), (1, .int a1), (2, .int a2), (3, .int a3)]) (dk kX8_isTaken 1 rfl) (by decide) rfl ?_
  refine g_iload_n C (i := 2) 3 rfl rfl (dk kX8_isTaken 2 rfl) ?_
  refine g_istore C (i := 5) (lv' := [(5, .int a2), (4, .int 0), (0, .ref (za Z a0)), (1, .int a1), (2, .int a2), (3, .int a3)]) (dk kX8_isTaken 3 rfl) (by decide) rfl ?_
  obtain ⟨q14, eq14, h⟩ := bd_inv h
  refine g_sub [2, 3, 5, 1, 0] (lv' := [(0, .ref (za Z a0)), (1, .int a1), (3, .int a3), (4, .int 0), (5, .int a2)]) rfl ?_
  refine gl_X8_isTaken_6 a0 a1 a3 k0 μ C E.2 FU 0 a2 _ eq14 ?_
  obtain ⟨x15, ex15, h⟩ := lt_inv h
  rw [← ex15]
  refine g_iload C (i := 4) 0 rfl (dk kX8_isTaken 25 rfl) ?_
  obtain ⟨c16, h⟩ := gd_inv h
  have h9 := Option.some.inj h
  subst h9
  exact g_iret C E rfl (br0 _ c16) (Nat.le_refl 0) (Nat.le_refl 0) (dk kX8_isTaken 26 rfl)
theorem ct_X8_isTaken {l : Launch} {Z : ZZ} {μ : Mm} {a0 : Nat} {a1 : Int32} {a2 : Int32} {a3 : Int32} {r : Int32} (k0 : (zk Z a0).1 = 6) (h : f_X8_isTaken (zk Z) μ a0 a1 a2 a3 = some r) : CtM l Z false yX8_isTaken cX8_isTaken 6 (some .boolean) 2 0 0 [.ref (za Z a0), .int a1, .int a2, .int a3] μ (some (.int r)) Z μ := ct_of rfl rfl (Nat.le_of_ble_eq_true rfl) (fun X C E => t_X8_isTaken μ a0 a1 a2 a3 r k0 h C E)

def qX8_ones : List (Nat × Instr × Nat) := [(0, .iconst 0, 1), (1, .istore_n 1, 1), (2, .iconst 0, 1), (3, .istore_n 2, 1), (4, .iload_n 2, 1), (5, .bipush 12, 2), (7, .if_icmp .ge 17, 3), (10, .iload_n 1, 1), (11, .iload_n 0, 1), (12, .iload_n 2, 1), (13, .ishr, 1), (14, .iconst 1, 1), (15, .iand, 1), (16, .iadd, 1), (17, .istore_n 1, 1), (18, .iinc 2 1, 3), (21, .goto (-17), 3), (24, .iload_n 1, 1), (25, .ireturn, 1)]
theorem kX8_ones : ∀ q ∈ qX8_ones, decode cX8_ones q.1 = .ok q.2 := by decide +kernel
def f_X8_ones_l4 (v0 : Int32) : Nat → Int32 → Int32 → Option (Int32)
  | 0, _, _ => none
  | n + 1, v1, v2 => if 12 ≤ v2 then (some v1) else (lt1 (α := Int32) (v1 + ((v0 >>> (v2 &&& 31)) &&& 1)) fun x2 => lt1 (α := Int32) (v2 + 1) fun x3 => f_X8_ones_l4 v0 n x2 x3)
def f_X8_ones (a0 : Int32) : Option (Int32) :=
  bd (f_X8_ones_l4 a0 FU 0 0) fun q4 => lt1 q4 fun x5 => some x5
set_option maxRecDepth 100000 in
set_option maxHeartbeats 4000000 in
theorem gl_X8_ones_4 {l : Launch} {Z : ZZ} {X : XX} (v0 : Int32) (μ : Mm) (C : Cx l Z false X cX8_ones RX8 3 (some .int)) (E : xR X = rmm 0 0 0) : ∀ (n : Nat) (v1 : Int32) (v2 : Int32) (y : Int32), f_X8_ones_l4 v0 n v1 v2 = some y → G Z X 3 0 0 24 [(1, .int y)] [] (μ) → G Z X 3 0 0 4 [(0, .int v0), (1, .int v1), (2, .int v2)] [] μ := by
  intro n
  induction n with
  | zero => intro v1 v2 y h he; unfold f_X8_ones_l4 at h; cases h
  | succ n ih =>
    intro v1 v2 y h he
    unfold f_X8_ones_l4 at h
    refine g_iload_n C (i := 2) 2 rfl rfl (dk kX8_ones 4 rfl) ?_
    refine g_bipush C (v := 12) (by decide) (dk kX8_ones 5 rfl) ?_
    refine g_icmp_ge C (tgt := 24) (dk kX8_ones 6 rfl) (by decide) (fun c1 => ?_) (fun c1 => ?_)
    · replace h := ite_t h c1
      cases h
      exact g_sub [1] rfl he
    · replace h := ite_f h c1
      refine g_iload_n C (i := 1) 1 rfl rfl (dk kX8_ones 7 rfl) ?_
      refine g_iload_n C (i := 0) 0 rfl rfl (dk kX8_ones 8 rfl) ?_
      refine g_iload_n C (i := 2) 2 rfl rfl (dk kX8_ones 9 rfl) ?_
      refine g_ishr C (dk kX8_ones 10 rfl) ?_
      refine g_iconst C (v := 1) (by decide) (dk kX8_ones 11 rfl) ?_
      refine g_iand C (dk kX8_ones 12 rfl) ?_
      refine g_iadd C (dk kX8_ones 13 rfl) ?_
      obtain ⟨x2, ex2, h⟩ := lt_inv h
      refine g_nmi ex2 ?_
      refine g_istore_n C (i := 1) (lv' := [(1, .int x2), (0, .int v0), (2, .int v2)]) (dk kX8_ones 14 rfl) rfl (by decide) rfl ?_
      obtain ⟨x3, ex3, h⟩ := lt_inv h
      refine g_iinc C (i := 2) (v := x3) (lv' := [(2, .int x3), (1, .int x2), (0, .int v0)]) 2 (dk kX8_ones 15 rfl) rfl (by rw [ex3]; rfl) (by decide) rfl ?_
      refine g_goto C (tgt := 4) (dk kX8_ones 16 rfl) (by decide) ?_
      exact g_sub [2, 1, 0] rfl (ih x2 x3 y h he)
set_option maxRecDepth 100000 in
set_option maxHeartbeats 4000000 in
theorem t_X8_ones {l : Launch} {Z : ZZ} {X : XX} (μ : Mm) (a0 : Int32) (r : Int32)  (h : f_X8_ones a0 = some r) (C : Cx l Z false X cX8_ones RX8 3 (some .int)) (E : Ex Z X 0 0 0 (some (.int r)) Z μ) : G Z X 3 0 0 0 [(0, .int a0)] [] μ := by
  unfold f_X8_ones at h
  refine g_iconst C (v := 0) (by decide) (dk kX8_ones 0 rfl) ?_
  refine g_istore_n C (i := 1) (lv' := [(1, .int 0), (0, .int a0)]) (dk kX8_ones 1 rfl) rfl (by decide) rfl ?_
  refine g_iconst C (v := 0) (by decide) (dk kX8_ones 2 rfl) ?_
  refine g_istore_n C (i := 2) (lv' := [(2, .int 0), (1, .int 0), (0, .int a0)]) (dk kX8_ones 3 rfl) rfl (by decide) rfl ?_
  obtain ⟨q4, eq4, h⟩ := bd_inv h
  refine g_sub [2, 1, 0] (lv' := [(0, .int a0), (1, .int 0), (2, .int 0)]) rfl ?_
  refine gl_X8_ones_4 a0  μ C E.2 FU 0 0 _ eq4 ?_
  obtain ⟨x5, ex5, h⟩ := lt_inv h
  rw [← ex5]
  refine g_iload_n C (i := 1) 0 rfl rfl (dk kX8_ones 17 rfl) ?_
  have h9 := Option.some.inj h
  subst h9
  exact g_iret C E rfl rfl (Nat.le_refl 0) (Nat.le_refl 0) (dk kX8_ones 18 rfl)
theorem ct_X8_ones {l : Launch} {Z : ZZ} {μ : Mm} {a0 : Int32} {r : Int32}  (h : f_X8_ones a0 = some r) : CtM l Z false yX8_ones cX8_ones 3 (some .int) 0 0 0 [.int a0] μ (some (.int r)) Z μ := ct_of rfl rfl (Nat.le_of_ble_eq_true rfl) (fun X C E => t_X8_ones μ a0 r  h C E)

def qX8_blacks : List (Nat × Instr × Nat) := [(0, .iconst 0, 1), (1, .istore_n 2, 1), (2, .iconst 0, 1), (3, .istore_n 3, 1), (4, .iload_n 3, 1), (5, .bipush 6, 2), (7, .if_icmp .ge 23, 3), (10, .iload_n 2, 1), (11, .aload_n 0, 1), (12, .iload_n 1, 1), (13, .iconst 2, 1), (14, .iload_n 3, 1), (15, .iadd, 1), (16, .invokevirtual 68, 3), (19, .invokestatic 95, 3), (22, .iadd, 1), (23, .istore_n 2, 1), (24, .iinc 3 1, 3), (27, .goto (-23), 3), (30, .iload_n 2, 1), (31, .ireturn, 1)]
theorem kX8_blacks : ∀ q ∈ qX8_blacks, decode cX8_blacks q.1 = .ok q.2 := by decide +kernel
def f_X8_blacks_l4 (K : Nat → Nat × Nat) (μ : Mm) (v0 : Nat) (v1 : Int32) : Nat → Int32 → Int32 → Option (Int32)
  | 0, _, _ => none
  | n + 1, v2, v3 => if 6 ≤ v3 then (some v2) else (bd (f_X8_labelOf K μ v0 v1 (2 + v3)) fun x3 => bd (f_X8_ones x3) fun x5 => lt1 (α := Int32) (v2 + x5) fun x6 => lt1 (α := Int32) (v3 + 1) fun x7 => f_X8_blacks_l4 K μ v0 v1 n x6 x7)
def f_X8_blacks (K : Nat → Nat × Nat) (μ : Mm) (a0 : Nat) (a1 : Int32) : Option (Int32) :=
  bd (f_X8_blacks_l4 K μ a0 a1 FU 0 0) fun q8 => lt1 q8 fun x9 => some x9
set_option maxRecDepth 100000 in
set_option maxHeartbeats 4000000 in
theorem gl_X8_blacks_4 {l : Launch} {Z : ZZ} {X : XX} (v0 : Nat) (v1 : Int32) (k0 : (zk Z v0).1 = 6) (μ : Mm) (C : Cx l Z false X cX8_blacks RX8 4 (some .int)) (E : xR X = rmm 1 0 0) : ∀ (n : Nat) (v2 : Int32) (v3 : Int32) (y : Int32), f_X8_blacks_l4 (zk Z) μ v0 v1 n v2 v3 = some y → G Z X 4 0 0 30 [(2, .int y)] [] (μ) → G Z X 4 0 0 4 [(0, .ref (za Z v0)), (1, .int v1), (2, .int v2), (3, .int v3)] [] μ := by
  intro n
  induction n with
  | zero => intro v2 v3 y h he; unfold f_X8_blacks_l4 at h; cases h
  | succ n ih =>
    intro v2 v3 y h he
    unfold f_X8_blacks_l4 at h
    refine g_iload_n C (i := 3) 3 rfl rfl (dk kX8_blacks 4 rfl) ?_
    refine g_bipush C (v := 6) (by decide) (dk kX8_blacks 5 rfl) ?_
    refine g_icmp_ge C (tgt := 30) (dk kX8_blacks 6 rfl) (by decide) (fun c1 => ?_) (fun c1 => ?_)
    · replace h := ite_t h c1
      cases h
      exact g_sub [2] rfl he
    · replace h := ite_f h c1
      refine g_iload_n C (i := 2) 2 rfl rfl (dk kX8_blacks 7 rfl) ?_
      refine g_aload_n C (i := 0) 0 rfl rfl (dk kX8_blacks 8 rfl) ?_
      refine g_iload_n C (i := 1) 1 rfl rfl (dk kX8_blacks 9 rfl) ?_
      refine g_iconst C (v := 2) (by decide) (dk kX8_blacks 10 rfl) ?_
      refine g_iload_n C (i := 3) 3 rfl rfl (dk kX8_blacks 11 rfl) ?_
      refine g_iadd C (dk kX8_blacks 12 rfl) ?_
      obtain ⟨x3, eq2, h⟩ := bd_inv h
      refine g_callV C E (rest := [.int v2]) 2 (ct_X8_labelOf k0 eq2) wd_5_89 mm_X8_labelOf ⟨rfl, by decide, by decide, by decide⟩ rfl (by decide) k0 (by decide) rfl rfl (Nat.le_of_ble_eq_true rfl) (by decide) (dk kX8_blacks 13 rfl) ?_
      obtain ⟨x5, eq4, h⟩ := bd_inv h
      refine g_callS C E (rest := [.int v2]) 1 (ct_X8_ones  eq4) wd_5_156 mm_X8_ones ⟨by decide, by decide, by decide⟩ rfl (by decide) rfl (Nat.le_of_ble_eq_true rfl) (by decide) (dk kX8_blacks 14 rfl) ?_
      refine g_iadd C (dk kX8_blacks 15 rfl) ?_
      obtain ⟨x6, ex6, h⟩ := lt_inv h
      refine g_nmi ex6 ?_
      refine g_istore_n C (i := 2) (lv' := [(2, .int x6), (0, .ref (za Z v0)), (1, .int v1), (3, .int v3)]) (dk kX8_blacks 16 rfl) rfl (by decide) rfl ?_
      obtain ⟨x7, ex7, h⟩ := lt_inv h
      refine g_iinc C (i := 3) (v := x7) (lv' := [(3, .int x7), (2, .int x6), (0, .ref (za Z v0)), (1, .int v1)]) 3 (dk kX8_blacks 17 rfl) rfl (by rw [ex7]; rfl) (by decide) rfl ?_
      refine g_goto C (tgt := 4) (dk kX8_blacks 18 rfl) (by decide) ?_
      exact g_sub [2, 3, 1, 0] rfl (ih x6 x7 y h he)
set_option maxRecDepth 100000 in
set_option maxHeartbeats 4000000 in
theorem t_X8_blacks {l : Launch} {Z : ZZ} {X : XX} (μ : Mm) (a0 : Nat) (a1 : Int32) (r : Int32) (k0 : (zk Z a0).1 = 6) (h : f_X8_blacks (zk Z) μ a0 a1 = some r) (C : Cx l Z false X cX8_blacks RX8 4 (some .int)) (E : Ex Z X 1 0 0 (some (.int r)) Z μ) : G Z X 4 0 0 0 [(0, .ref (za Z a0)), (1, .int a1)] [] μ := by
  unfold f_X8_blacks at h
  refine g_iconst C (v := 0) (by decide) (dk kX8_blacks 0 rfl) ?_
  refine g_istore_n C (i := 2) (lv' := [(2, .int 0), (0, .ref (za Z a0)), (1, .int a1)]) (dk kX8_blacks 1 rfl) rfl (by decide) rfl ?_
  refine g_iconst C (v := 0) (by decide) (dk kX8_blacks 2 rfl) ?_
  refine g_istore_n C (i := 3) (lv' := [(3, .int 0), (2, .int 0), (0, .ref (za Z a0)), (1, .int a1)]) (dk kX8_blacks 3 rfl) rfl (by decide) rfl ?_
  obtain ⟨q8, eq8, h⟩ := bd_inv h
  refine g_sub [2, 3, 1, 0] (lv' := [(0, .ref (za Z a0)), (1, .int a1), (2, .int 0), (3, .int 0)]) rfl ?_
  refine gl_X8_blacks_4 a0 a1 k0 μ C E.2 FU 0 0 _ eq8 ?_
  obtain ⟨x9, ex9, h⟩ := lt_inv h
  rw [← ex9]
  refine g_iload_n C (i := 2) 0 rfl rfl (dk kX8_blacks 19 rfl) ?_
  have h9 := Option.some.inj h
  subst h9
  exact g_iret C E rfl rfl (Nat.le_refl 0) (Nat.le_refl 0) (dk kX8_blacks 20 rfl)
theorem ct_X8_blacks {l : Launch} {Z : ZZ} {μ : Mm} {a0 : Nat} {a1 : Int32} {r : Int32} (k0 : (zk Z a0).1 = 6) (h : f_X8_blacks (zk Z) μ a0 a1 = some r) : CtM l Z false yX8_blacks cX8_blacks 4 (some .int) 1 0 0 [.ref (za Z a0), .int a1] μ (some (.int r)) Z μ := ct_of rfl rfl (Nat.le_of_ble_eq_true rfl) (fun X C E => t_X8_blacks μ a0 a1 r k0 h C E)

def qX8_whyNot : List (Nat × Instr × Nat) := [(0, .iload_n 3, 1), (1, .aload_n 0, 1), (2, .iload_n 2, 1), (3, .iconst 0, 1), (4, .invokevirtual 68, 3), (7, .iadd, 1), (8, .iconst 1, 1), (9, .isub, 1), (10, .istore 4, 2), (12, .iload 4, 2), (14, .aload_n 0, 1), (15, .getfield 7, 3), (18, .iconst 0, 1), (19, .iaload, 1), (20, .if_icmp .lt 5, 3), (23, .iconst 1, 1), (24, .ireturn, 1), (25, .aload_n 0, 1), (26, .iload_n 1, 1), (27, .iload_n 3, 1), (28, .iload 4, 2), (30, .invokevirtual 88, 3), (33, .ifCond .eq 7, 3), (36, .iconst 2, 1), (37, .goto 16, 3), (40, .aload_n 0, 1), (41, .iload_n 2, 1), (42, .invokevirtual 98, 3), (45, .ifCond .ne 7, 3), (48, .iconst 3, 1), (49, .goto 4, 3), (52, .iconst 0, 1), (53, .ireturn, 1)]
theorem kX8_whyNot : ∀ q ∈ qX8_whyNot, decode cX8_whyNot q.1 = .ok q.2 := by decide +kernel
def f_X8_whyNot (K : Nat → Nat × Nat) (μ : Mm) (a0 : Nat) (a1 : Int32) (a2 : Int32) (a3 : Int32) : Option (Int32) :=
  bd (f_X8_labelOf K μ a0 a2 0) fun x2 => lt1 (α := Int32) ((a3 + x2) - 1) fun x3 => bd (rf K μ a0 0 8) fun b4 => gd (inb 0 (K b4).2) <| if x3 < (μ.1 b4 (ix 0)) then (bd (f_X8_isTaken K μ a0 a1 a3 x3) fun x8 => if x8 = 0 then (bd (f_X8_blacks K μ a0 a2) fun x11 => lt1 (α := Int32) (if x11 = 0 then 3 else 0) fun x12 => some x12) else (some 2)) else (some 1)
set_option maxRecDepth 100000 in
set_option maxHeartbeats 4000000 in
theorem t_X8_whyNot {l : Launch} {Z : ZZ} {X : XX} (μ : Mm) (a0 : Nat) (a1 : Int32) (a2 : Int32) (a3 : Int32) (r : Int32) (k0 : (zk Z a0).1 = 6) (h : f_X8_whyNot (zk Z) μ a0 a1 a2 a3 = some r) (C : Cx l Z false X cX8_whyNot RX8 5 (some .int)) (E : Ex Z X 3 0 0 (some (.int r)) Z μ) : G Z X 5 0 0 0 [(0, .ref (za Z a0)), (1, .int a1), (2, .int a2), (3, .int a3)] [] μ := by
  unfold f_X8_whyNot at h
  refine g_iload_n C (i := 3) 3 rfl rfl (dk kX8_whyNot 0 rfl) ?_
  refine g_aload_n C (i := 0) 0 rfl rfl (dk kX8_whyNot 1 rfl) ?_
  refine g_iload_n C (i := 2) 2 rfl rfl (dk kX8_whyNot 2 rfl) ?_
  refine g_iconst C (v := 0) (by decide) (dk kX8_whyNot 3 rfl) ?_
  obtain ⟨x2, eq1, h⟩ := bd_inv h
  refine g_callV C E.2 (rest := [.int a3]) 2 (ct_X8_labelOf k0 eq1) wd_5_89 mm_X8_labelOf ⟨rfl, by decide, by decide, by decide⟩ rfl (by decide) k0 (by decide) rfl rfl (Nat.le_of_ble_eq_true rfl) (by decide) (dk kX8_whyNot 4 rfl) ?_
  refine g_iadd C (dk kX8_whyNot 5 rfl) ?_
  refine g_iconst C (v := 1) (by decide) (dk kX8_whyNot 6 rfl) ?_
  refine g_isub C (dk kX8_whyNot 7 rfl) ?_
  obtain ⟨x3, ex3, h⟩ := lt_inv h
  refine g_nmi ex3 ?_
  refine g_istore C (i := 4) (lv' := [(4, .int x3), (0, .ref (za Z a0)), (1, .int a1), (2, .int a2), (3, .int a3)]) (dk kX8_whyNot 8 rfl) (by decide) rfl ?_
  refine g_iload C (i := 4) 0 rfl (dk kX8_whyNot 9 rfl) ?_
  refine g_aload_n C (i := 0) 1 rfl rfl (dk kX8_whyNot 10 rfl) ?_
  obtain ⟨b4, eb4, h⟩ := bd_inv h
  obtain ⟨rb4, kb4⟩ := rf_inv eb4
  refine gR_6_0 C k0 (C.w wd_5_3) rb4 (dk kX8_whyNot 11 rfl) ?_
  refine g_iconst C (v := 0) (by decide) (dk kX8_whyNot 12 rfl) ?_
  obtain ⟨c5, h⟩ := gd_inv h
  refine g_iald C kb4 c5 (dk kX8_whyNot 13 rfl) ?_
  refine g_icmp_lt C (tgt := 25) (dk kX8_whyNot 14 rfl) (by decide) (fun c6 => ?_) (fun c6 => ?_)
  · replace h := ite_t h c6
    refine g_aload_n C (i := 0) 1 rfl rfl (dk kX8_whyNot 17 rfl) ?_
    refine g_iload_n C (i := 1) 2 rfl rfl (dk kX8_whyNot 18 rfl) ?_
    refine g_iload_n C (i := 3) 4 rfl rfl (dk kX8_whyNot 19 rfl) ?_
    refine g_iload C (i := 4) 0 rfl (dk kX8_whyNot 20 rfl) ?_
    obtain ⟨x8, eq7, h⟩ := bd_inv h
    refine g_callV C E.2 (rest := []) 3 (ct_X8_isTaken k0 eq7) wd_5_120 mm_X8_isTaken ⟨rfl, by decide, by decide, by decide⟩ rfl (by decide) k0 (by decide) rfl rfl (Nat.le_of_ble_eq_true rfl) (by decide) (dk kX8_whyNot 21 rfl) ?_
    refine g_if_eq C (tgt := 40) (dk kX8_whyNot 22 rfl) (by decide) (fun c9 => ?_) (fun c9 => ?_)
    · replace h := ite_t h c9
      refine g_aload_n C (i := 0) 1 rfl rfl (dk kX8_whyNot 25 rfl) ?_
      refine g_iload_n C (i := 2) 3 rfl rfl (dk kX8_whyNot 26 rfl) ?_
      obtain ⟨x11, eq10, h⟩ := bd_inv h
      refine g_callV C E.2 (rest := []) 1 (ct_X8_blacks k0 eq10) wd_5_152 mm_X8_blacks ⟨rfl, by decide, by decide, by decide⟩ rfl (by decide) k0 (by decide) rfl rfl (Nat.le_of_ble_eq_true rfl) (by decide) (dk kX8_whyNot 27 rfl) ?_
      obtain ⟨x12, ex12, h⟩ := lt_inv h
      have kj13 : G Z X 5 0 0 53 [(4, .int x3), (0, .ref (za Z a0)), (1, .int a1), (2, .int a2), (3, .int a3)] [.int x12] μ := by
        have h9 := Option.some.inj h
        subst h9
        exact g_iret C E rfl rfl (Nat.le_refl 0) (Nat.le_refl 0) (dk kX8_whyNot 32 rfl)
      clear h
      refine g_if_ne C (tgt := 52) (dk kX8_whyNot 28 rfl) (by decide) (fun c14 => ?_) (fun c14 => ?_)
      · refine g_iconst C (v := 0) (by decide) (dk kX8_whyNot 31 rfl) ?_
        exact g_nmi (by rw [ex12, if_neg c14]) kj13
      · refine g_iconst C (v := 3) (by decide) (dk kX8_whyNot 29 rfl) ?_
        refine g_goto C (tgt := 53) (dk kX8_whyNot 30 rfl) (by decide) ?_
        exact g_nmi (by rw [ex12, if_pos c14]) kj13
    · replace h := ite_f h c9
      refine g_iconst C (v := 2) (by decide) (dk kX8_whyNot 23 rfl) ?_
      refine g_goto C (tgt := 53) (dk kX8_whyNot 24 rfl) (by decide) ?_
      have h9 := Option.some.inj h
      subst h9
      exact g_iret C E rfl rfl (Nat.le_refl 0) (Nat.le_refl 0) (dk kX8_whyNot 32 rfl)
  · replace h := ite_f h c6
    refine g_iconst C (v := 1) (by decide) (dk kX8_whyNot 15 rfl) ?_
    have h9 := Option.some.inj h
    subst h9
    exact g_iret C E rfl rfl (Nat.le_refl 0) (Nat.le_refl 0) (dk kX8_whyNot 16 rfl)
theorem ct_X8_whyNot {l : Launch} {Z : ZZ} {μ : Mm} {a0 : Nat} {a1 : Int32} {a2 : Int32} {a3 : Int32} {r : Int32} (k0 : (zk Z a0).1 = 6) (h : f_X8_whyNot (zk Z) μ a0 a1 a2 a3 = some r) : CtM l Z false yX8_whyNot cX8_whyNot 5 (some .int) 3 0 0 [.ref (za Z a0), .int a1, .int a2, .int a3] μ (some (.int r)) Z μ := ct_of rfl rfl (Nat.le_of_ble_eq_true rfl) (fun X C E => t_X8_whyNot μ a0 a1 a2 a3 r k0 h C E)

def qX8_priceOf : List (Nat × Instr × Nat) := [(0, .aload_n 0, 1), (1, .iload_n 2, 1), (2, .invokevirtual 98, 3), (5, .aload_n 0, 1), (6, .iload_n 2, 1), (7, .iconst 1, 1), (8, .invokevirtual 68, 3), (11, .imul, 1), (12, .aload_n 0, 1), (13, .getfield 7, 3), (16, .bipush 7, 2), (18, .iaload, 1), (19, .imul, 1), (20, .istore 4, 2), (22, .iconst 0, 1), (23, .istore 5, 2), (25, .iconst 1, 1), (26, .istore 6, 2), (28, .iload_n 3, 1), (29, .istore 7, 2), (31, .iload 7, 2), (33, .iload_n 3, 1), (34, .aload_n 0, 1), (35, .iload_n 2, 1), (36, .iconst 0, 1), (37, .invokevirtual 68, 3), (40, .iadd, 1), (41, .if_icmp .ge 46, 3), (44, .iload 5, 2), (46, .aload_n 0, 1), (47, .getfield 7, 3), (50, .iload 7, 2), (52, .iconst 1, 1), (53, .invokestatic 40, 3), (56, .iadd, 1), (57, .istore 5, 2), (59, .iload 6, 2), (61, .ifCond .eq 17, 3), (64, .aload_n 0, 1), (65, .iload 7, 2), (67, .invokevirtual 82, 3), (70, .iload_n 1, 1), (71, .if_icmp .ne 7, 3), (74, .iconst 1, 1), (75, .goto 4, 3), (78, .iconst 0, 1), (79, .istore 6, 2), (81, .iinc 7 1, 3), (84, .goto (-53), 3), (87, .iload 5, 2), (89, .aload_n 0, 1), (90, .iload_n 2, 1), (91, .iconst 0, 1), (92, .invokevirtual 68, 3), (95, .idiv, 1), (96, .istore 7, 2), (98, .iload 6, 2), (100, .ifCond .eq 33, 3), (103, .iload 4, 2), (105, .sipush 1000, 3), (108, .iload 7, 2), (110, .sipush 900, 3), (113, .if_icmp .ge 8, 3), (116, .iload 7, 2), (118, .goto 6, 3), (121, .sipush 900, 3), (124, .isub, 1), (125, .imul, 1), (126, .sipush 1000, 3), (129, .idiv, 1), (130, .goto 5, 3), (133, .iload 4, 2), (135, .ireturn, 1)]
theorem kX8_priceOf : ∀ q ∈ qX8_priceOf, decode cX8_priceOf q.1 = .ok q.2 := by decide +kernel
def f_X8_priceOf_l31 (K : Nat → Nat × Nat) (μ : Mm) (v0 : Nat) (v1 : Int32) (v2 : Int32) (v3 : Int32) (v4 : Int32) : Nat → Int32 → Int32 → Int32 → Option (Int32 × Int32)
  | 0, _, _, _ => none
  | n + 1, v5, v6, v7 => bd (f_X8_labelOf K μ v0 v2 0) fun x9 => if (v3 + x9) ≤ v7 then (some (v5, v6)) else (bd (rf K μ v0 0 8) fun b11 => bd (f_X8_dotOf K μ b11 v7 1) fun x13 => lt1 (α := Int32) (v5 + x13) fun x14 => if v6 = 0 then (lt1 (α := Int32) (v7 + 1) fun x16 => f_X8_priceOf_l31 K μ v0 v1 v2 v3 v4 n x14 0 x16) else (bd (f_X8_renter K μ v0 v7) fun x18 => lt1 (α := Int32) (if x18 = v1 then 1 else 0) fun x19 => lt1 (α := Int32) (v7 + 1) fun x21 => f_X8_priceOf_l31 K μ v0 v1 v2 v3 v4 n x14 x19 x21))
def f_X8_priceOf (K : Nat → Nat × Nat) (μ : Mm) (a0 : Nat) (a1 : Int32) (a2 : Int32) (a3 : Int32) : Option (Int32) :=
  bd (f_X8_blacks K μ a0 a2) fun x2 => bd (f_X8_labelOf K μ a0 a2 1) fun x4 => bd (rf K μ a0 0 8) fun b5 => gd (inb 7 (K b5).2) <| lt1 (α := Int32) ((x2 * x4) * (μ.1 b5 (ix 7))) fun x7 => bd (f_X8_priceOf_l31 K μ a0 a1 a2 a3 x7 FU 0 1 a3) fun q23 => lt1 q23.1 fun x24 => lt1 q23.2 fun x25 => bd (f_X8_labelOf K μ a0 a2 0) fun x27 => gd (¬ x27 = 0) <| lt1 (α := Int32) (x24 / x27) fun x29 => lt1 (α := Int32) (if x25 = 0 then x7 else (if 900 ≤ x29 then ((x7 * (1000 - 900)) / 1000) else ((x7 * (1000 - x29)) / 1000))) fun x30 => some x30
set_option maxRecDepth 100000 in
set_option maxHeartbeats 4000000 in
theorem gl_X8_priceOf_31 {l : Launch} {Z : ZZ} {X : XX} (v0 : Nat) (v1 : Int32) (v2 : Int32) (v3 : Int32) (v4 : Int32) (k0 : (zk Z v0).1 = 6) (μ : Mm) (C : Cx l Z false X cX8_priceOf RX8 8 (some .int)) (E : xR X = rmm 2 0 0) : ∀ (n : Nat) (v5 : Int32) (v6 : Int32) (v7 : Int32) (y : Int32 × Int32), f_X8_priceOf_l31 (zk Z) μ v0 v1 v2 v3 v4 n v5 v6 v7 = some y → G Z X 8 0 0 87 [(0, .ref (za Z v0)), (2, .int v2), (4, .int v4), (5, .int y.1), (6, .int y.2)] [] (μ) → G Z X 8 0 0 31 [(0, .ref (za Z v0)), (1, .int v1), (2, .int v2), (3, .int v3), (4, .int v4), (5, .int v5), (6, .int v6), (7, .int v7)] [] μ := by
  intro n
  induction n with
  | zero => intro v5 v6 v7 y h he; unfold f_X8_priceOf_l31 at h; cases h
  | succ n ih =>
    intro v5 v6 v7 y h he
    unfold f_X8_priceOf_l31 at h
    refine g_iload C (i := 7) 7 rfl (dk kX8_priceOf 20 rfl) ?_
    refine g_iload_n C (i := 3) 3 rfl rfl (dk kX8_priceOf 21 rfl) ?_
    refine g_aload_n C (i := 0) 0 rfl rfl (dk kX8_priceOf 22 rfl) ?_
    refine g_iload_n C (i := 2) 2 rfl rfl (dk kX8_priceOf 23 rfl) ?_
    refine g_iconst C (v := 0) (by decide) (dk kX8_priceOf 24 rfl) ?_
    obtain ⟨x9, eq8, h⟩ := bd_inv h
    refine g_callV C E (rest := [.int v3, .int v7]) 2 (ct_X8_labelOf k0 eq8) wd_5_89 mm_X8_labelOf ⟨rfl, by decide, by decide, by decide⟩ rfl (by decide) k0 (by decide) rfl rfl (Nat.le_of_ble_eq_true rfl) (by decide) (dk kX8_priceOf 25 rfl) ?_
    refine g_iadd C (dk kX8_priceOf 26 rfl) ?_
    refine g_icmp_ge C (tgt := 87) (dk kX8_priceOf 27 rfl) (by decide) (fun c10 => ?_) (fun c10 => ?_)
    · replace h := ite_t h c10
      cases h
      exact g_sub [0, 2, 4, 5, 6] rfl he
    · replace h := ite_f h c10
      refine g_iload C (i := 5) 5 rfl (dk kX8_priceOf 28 rfl) ?_
      refine g_aload_n C (i := 0) 0 rfl rfl (dk kX8_priceOf 29 rfl) ?_
      obtain ⟨b11, eb11, h⟩ := bd_inv h
      obtain ⟨rb11, kb11⟩ := rf_inv eb11
      refine gR_6_0 C k0 (C.w wd_5_3) rb11 (dk kX8_priceOf 30 rfl) ?_
      refine g_iload C (i := 7) 7 rfl (dk kX8_priceOf 31 rfl) ?_
      refine g_iconst C (v := 1) (by decide) (dk kX8_priceOf 32 rfl) ?_
      obtain ⟨x13, eq12, h⟩ := bd_inv h
      refine g_callS C E (rest := [.int v5]) 3 (ct_X8_dotOf kb11 eq12) wd_5_60 mm_X8_dotOf ⟨by decide, by decide, by decide⟩ rfl (by decide) rfl (Nat.le_of_ble_eq_true rfl) (by decide) (dk kX8_priceOf 33 rfl) ?_
      refine g_iadd C (dk kX8_priceOf 34 rfl) ?_
      obtain ⟨x14, ex14, h⟩ := lt_inv h
      refine g_nmi ex14 ?_
      refine g_istore C (i := 5) (lv' := [(5, .int x14), (0, .ref (za Z v0)), (1, .int v1), (2, .int v2), (3, .int v3), (4, .int v4), (6, .int v6), (7, .int v7)]) (dk kX8_priceOf 35 rfl) (by decide) rfl ?_
      refine g_iload C (i := 6) 6 rfl (dk kX8_priceOf 36 rfl) ?_
      refine g_if_eq C (tgt := 78) (dk kX8_priceOf 37 rfl) (by decide) (fun c15 => ?_) (fun c15 => ?_)
      · replace h := ite_t h c15
        refine g_iconst C (v := 0) (by decide) (dk kX8_priceOf 45 rfl) ?_
        refine g_istore C (i := 6) (lv' := [(6, .int 0), (5, .int x14), (0, .ref (za Z v0)), (1, .int v1), (2, .int v2), (3, .int v3), (4, .int v4), (7, .int v7)]) (dk kX8_priceOf 46 rfl) (by decide) rfl ?_
        obtain ⟨x16, ex16, h⟩ := lt_inv h
        refine g_iinc C (i := 7) (v := x16) (lv' := [(7, .int x16), (6, .int 0), (5, .int x14), (0, .ref (za Z v0)), (1, .int v1), (2, .int v2), (3, .int v3), (4, .int v4)]) 7 (dk kX8_priceOf 47 rfl) rfl (by rw [ex16]; rfl) (by decide) rfl ?_
        refine g_goto C (tgt := 31) (dk kX8_priceOf 48 rfl) (by decide) ?_
        exact g_sub [3, 4, 5, 6, 7, 2, 1, 0] rfl (ih x14 0 x16 y h he)
      · replace h := ite_f h c15
        refine g_aload_n C (i := 0) 1 rfl rfl (dk kX8_priceOf 38 rfl) ?_
        refine g_iload C (i := 7) 7 rfl (dk kX8_priceOf 39 rfl) ?_
        obtain ⟨x18, eq17, h⟩ := bd_inv h
        refine g_callV C E (rest := []) 1 (ct_X8_renter k0 eq17) wd_5_124 mm_X8_renter ⟨rfl, by decide, by decide, by decide⟩ rfl (by decide) k0 (by decide) rfl rfl (Nat.le_of_ble_eq_true rfl) (by decide) (dk kX8_priceOf 40 rfl) ?_
        refine g_iload_n C (i := 1) 2 rfl rfl (dk kX8_priceOf 41 rfl) ?_
        obtain ⟨x19, ex19, h⟩ := lt_inv h
        have kj20 : G Z X 8 0 0 79 [(5, .int x14), (0, .ref (za Z v0)), (1, .int v1), (2, .int v2), (3, .int v3), (4, .int v4), (6, .int v6), (7, .int v7)] [.int x19] μ := by
          refine g_istore C (i := 6) (lv' := [(6, .int x19), (5, .int x14), (0, .ref (za Z v0)), (1, .int v1), (2, .int v2), (3, .int v3), (4, .int v4), (7, .int v7)]) (dk kX8_priceOf 46 rfl) (by decide) rfl ?_
          obtain ⟨x21, ex21, h⟩ := lt_inv h
          refine g_iinc C (i := 7) (v := x21) (lv' := [(7, .int x21), (6, .int x19), (5, .int x14), (0, .ref (za Z v0)), (1, .int v1), (2, .int v2), (3, .int v3), (4, .int v4)]) 7 (dk kX8_priceOf 47 rfl) rfl (by rw [ex21]; rfl) (by decide) rfl ?_
          refine g_goto C (tgt := 31) (dk kX8_priceOf 48 rfl) (by decide) ?_
          exact g_sub [3, 4, 5, 6, 7, 2, 1, 0] rfl (ih x14 x19 x21 y h he)
        clear h
        refine g_icmp_ne C (tgt := 78) (dk kX8_priceOf 42 rfl) (by decide) (fun c22 => ?_) (fun c22 => ?_)
        · refine g_iconst C (v := 0) (by decide) (dk kX8_priceOf 45 rfl) ?_
          exact g_nmi (by rw [ex19, if_neg c22]) kj20
        · refine g_iconst C (v := 1) (by decide) (dk kX8_priceOf 43 rfl) ?_
          refine g_goto C (tgt := 79) (dk kX8_priceOf 44 rfl) (by decide) ?_
          exact g_nmi (by rw [ex19, if_pos c22]) kj20
set_option maxRecDepth 100000 in
set_option maxHeartbeats 4000000 in
theorem t_X8_priceOf {l : Launch} {Z : ZZ} {X : XX} (μ : Mm) (a0 : Nat) (a1 : Int32) (a2 : Int32) (a3 : Int32) (r : Int32) (k0 : (zk Z a0).1 = 6) (h : f_X8_priceOf (zk Z) μ a0 a1 a2 a3 = some r) (C : Cx l Z false X cX8_priceOf RX8 8 (some .int)) (E : Ex Z X 2 0 0 (some (.int r)) Z μ) : G Z X 8 0 0 0 [(0, .ref (za Z a0)), (1, .int a1), (2, .int a2), (3, .int a3)] [] μ := by
  unfold f_X8_priceOf at h
  refine g_aload_n C (i := 0) 0 rfl rfl (dk kX8_priceOf 0 rfl) ?_
  refine g_iload_n C (i := 2) 2 rfl rfl (dk kX8_priceOf 1 rfl) ?_
  obtain ⟨x2, eq1, h⟩ := bd_inv h
  refine g_callV C E.2 (rest := []) 1 (ct_X8_blacks k0 eq1) wd_5_152 mm_X8_blacks ⟨rfl, by decide, by decide, by decide⟩ rfl (by decide) k0 (by decide) rfl rfl (Nat.le_of_ble_eq_true rfl) (by decide) (dk kX8_priceOf 2 rfl) ?_
  refine g_aload_n C (i := 0) 0 rfl rfl (dk kX8_priceOf 3 rfl) ?_
  refine g_iload_n C (i := 2) 2 rfl rfl (dk kX8_priceOf 4 rfl) ?_
  refine g_iconst C (v := 1) (by decide) (dk kX8_priceOf 5 rfl) ?_
  obtain ⟨x4, eq3, h⟩ := bd_inv h
  refine g_callV C E.2 (rest := [.int x2]) 2 (ct_X8_labelOf k0 eq3) wd_5_89 mm_X8_labelOf ⟨rfl, by decide, by decide, by decide⟩ rfl (by decide) k0 (by decide) rfl rfl (Nat.le_of_ble_eq_true rfl) (by decide) (dk kX8_priceOf 6 rfl) ?_
  refine g_imul C (dk kX8_priceOf 7 rfl) ?_
  refine g_aload_n C (i := 0) 0 rfl rfl (dk kX8_priceOf 8 rfl) ?_
  obtain ⟨b5, eb5, h⟩ := bd_inv h
  obtain ⟨rb5, kb5⟩ := rf_inv eb5
  refine gR_6_0 C k0 (C.w wd_5_3) rb5 (dk kX8_priceOf 9 rfl) ?_
  refine g_bipush C (v := 7) (by decide) (dk kX8_priceOf 10 rfl) ?_
  obtain ⟨c6, h⟩ := gd_inv h
  refine g_iald C kb5 c6 (dk kX8_priceOf 11 rfl) ?_
  refine g_imul C (dk kX8_priceOf 12 rfl) ?_
  obtain ⟨x7, ex7, h⟩ := lt_inv h
  refine g_nmi ex7 ?_
  refine g_istore C (i := 4) (lv' := [(4, .int x7), (0, .ref (za Z a0)), (1, .int a1), (2, .int a2), (3, .int a3)]) (dk kX8_priceOf 13 rfl) (by decide) rfl ?_
  refine g_iconst C (v := 0) (by decide) (dk kX8_priceOf 14 rfl) ?_
  refine g_istore C (i := 5) (lv' := [(5, .int 0), (4, .int x7), (0, .ref (za Z a0)), (1, .int a1), (2, .int a2), (3, .int a3)]) (dk kX8_priceOf 15 rfl) (by decide) rfl ?_
  refine g_iconst C (v := 1) (by decide) (dk kX8_priceOf 16 rfl) ?_
  refine g_istore C (i := 6) (lv' := [(6, .int 1), (5, .int 0), (4, .int x7), (0, .ref (za Z a0)), (1, .int a1), (2, .int a2), (3, .int a3)]) (dk kX8_priceOf 17 rfl) (by decide) rfl ?_
  refine g_iload_n C (i := 3) 6 rfl rfl (dk kX8_priceOf 18 rfl) ?_
  refine g_istore C (i := 7) (lv' := [(7, .int a3), (6, .int 1), (5, .int 0), (4, .int x7), (0, .ref (za Z a0)), (1, .int a1), (2, .int a2), (3, .int a3)]) (dk kX8_priceOf 19 rfl) (by decide) rfl ?_
  obtain ⟨q23, eq23, h⟩ := bd_inv h
  refine g_sub [4, 5, 6, 7, 3, 2, 1, 0] (lv' := [(0, .ref (za Z a0)), (1, .int a1), (2, .int a2), (3, .int a3), (4, .int x7), (5, .int 0), (6, .int 1), (7, .int a3)]) rfl ?_
  refine gl_X8_priceOf_31 a0 a1 a2 a3 x7 k0 μ C E.2 FU 0 1 a3 _ eq23 ?_
  obtain ⟨x24, ex24, h⟩ := lt_inv h
  obtain ⟨x25, ex25, h⟩ := lt_inv h
  rw [← ex24, ← ex25]
  refine g_iload C (i := 5) 3 rfl (dk kX8_priceOf 49 rfl) ?_
  refine g_aload_n C (i := 0) 0 rfl rfl (dk kX8_priceOf 50 rfl) ?_
  refine g_iload_n C (i := 2) 1 rfl rfl (dk kX8_priceOf 51 rfl) ?_
  refine g_iconst C (v := 0) (by decide) (dk kX8_priceOf 52 rfl) ?_
  obtain ⟨x27, eq26, h⟩ := bd_inv h
  refine g_callV C E.2 (rest := [.int x24]) 2 (ct_X8_labelOf k0 eq26) wd_5_89 mm_X8_labelOf ⟨rfl, by decide, by decide, by decide⟩ rfl (by decide) k0 (by decide) rfl rfl (Nat.le_of_ble_eq_true rfl) (by decide) (dk kX8_priceOf 53 rfl) ?_
  obtain ⟨c28, h⟩ := gd_inv h
  refine g_idiv C c28 (dk kX8_priceOf 54 rfl) ?_
  obtain ⟨x29, ex29, h⟩ := lt_inv h
  refine g_nmi ex29 ?_
  refine g_istore C (i := 7) (lv' := [(7, .int x29), (0, .ref (za Z a0)), (2, .int a2), (4, .int x7), (5, .int x24), (6, .int x25)]) (dk kX8_priceOf 55 rfl) (by decide) rfl ?_
  refine g_iload C (i := 6) 5 rfl (dk kX8_priceOf 56 rfl) ?_
  obtain ⟨x30, ex30, h⟩ := lt_inv h
  have kj31 : G Z X 8 0 0 135 [(7, .int x29), (0, .ref (za Z a0)), (2, .int a2), (4, .int x7), (5, .int x24), (6, .int x25)] [.int x30] μ := by
    have h9 := Option.some.inj h
    subst h9
    exact g_iret C E rfl rfl (Nat.le_refl 0) (Nat.le_refl 0) (dk kX8_priceOf 72 rfl)
  clear h
  refine g_if_eq C (tgt := 133) (dk kX8_priceOf 57 rfl) (by decide) (fun c32 => ?_) (fun c32 => ?_)
  · refine g_iload C (i := 4) 3 rfl (dk kX8_priceOf 71 rfl) ?_
    exact g_nmi (by rw [ex30, if_pos c32]) kj31
  · refine g_iload C (i := 4) 3 rfl (dk kX8_priceOf 58 rfl) ?_
    refine g_sipush C (v := 1000) (by decide) (dk kX8_priceOf 59 rfl) ?_
    refine g_iload C (i := 7) 0 rfl (dk kX8_priceOf 60 rfl) ?_
    refine g_sipush C (v := 900) (by decide) (dk kX8_priceOf 61 rfl) ?_
    refine g_icmp_ge C (tgt := 121) (dk kX8_priceOf 62 rfl) (by decide) (fun c33 => ?_) (fun c33 => ?_)
    · refine g_sipush C (v := 900) (by decide) (dk kX8_priceOf 65 rfl) ?_
      refine g_isub C (dk kX8_priceOf 66 rfl) ?_
      refine g_imul C (dk kX8_priceOf 67 rfl) ?_
      refine g_sipush C (v := 1000) (by decide) (dk kX8_priceOf 68 rfl) ?_
      refine g_idiv C (by decide) (dk kX8_priceOf 69 rfl) ?_
      refine g_goto C (tgt := 135) (dk kX8_priceOf 70 rfl) (by decide) ?_
      exact g_nmi (by rw [ex30, if_neg c32, if_pos c33]) kj31
    · refine g_iload C (i := 7) 0 rfl (dk kX8_priceOf 63 rfl) ?_
      refine g_goto C (tgt := 124) (dk kX8_priceOf 64 rfl) (by decide) ?_
      refine g_isub C (dk kX8_priceOf 66 rfl) ?_
      refine g_imul C (dk kX8_priceOf 67 rfl) ?_
      refine g_sipush C (v := 1000) (by decide) (dk kX8_priceOf 68 rfl) ?_
      refine g_idiv C (by decide) (dk kX8_priceOf 69 rfl) ?_
      refine g_goto C (tgt := 135) (dk kX8_priceOf 70 rfl) (by decide) ?_
      exact g_nmi (by rw [ex30, if_neg c32, if_neg c33]) kj31
theorem ct_X8_priceOf {l : Launch} {Z : ZZ} {μ : Mm} {a0 : Nat} {a1 : Int32} {a2 : Int32} {a3 : Int32} {r : Int32} (k0 : (zk Z a0).1 = 6) (h : f_X8_priceOf (zk Z) μ a0 a1 a2 a3 = some r) : CtM l Z false yX8_priceOf cX8_priceOf 8 (some .int) 2 0 0 [.ref (za Z a0), .int a1, .int a2, .int a3] μ (some (.int r)) Z μ := ct_of rfl rfl (Nat.le_of_ble_eq_true rfl) (fun X C E => t_X8_priceOf μ a0 a1 a2 a3 r k0 h C E)

def qX8_best : List (Nat × Instr × Nat) := [(0, .iconst (-1), 1), (1, .istore_n 3, 1), (2, .iconst 0, 1), (3, .istore 4, 2), (5, .iconst 0, 1), (6, .istore 5, 2), (8, .iconst 0, 1), (9, .istore 6, 2), (11, .iload 6, 2), (13, .bipush 24, 2), (15, .if_icmp .ge 112, 3), (18, .aload_n 0, 1), (19, .iload_n 1, 1), (20, .iload_n 2, 1), (21, .iload 6, 2), (23, .invokevirtual 115, 3), (26, .ifCond .ne 95, 3), (29, .aload_n 0, 1), (30, .iload_n 2, 1), (31, .iload 6, 2), (33, .invokevirtual 119, 3), (36, .istore 7, 2), (38, .aload_n 0, 1), (39, .iload_n 1, 1), (40, .iload_n 2, 1), (41, .iload 6, 2), (43, .invokevirtual 122, 3), (46, .istore 8, 2), (48, .iload_n 3, 1), (49, .iconst (-1), 1), (50, .if_icmp .eq 24, 3), (53, .iload 7, 2), (55, .iload 4, 2), (57, .if_icmp .lt 17, 3), (60, .iload 7, 2), (62, .iload 4, 2), (64, .if_icmp .ne 14, 3), (67, .iload 8, 2), (69, .iload 5, 2), (71, .if_icmp .ge 7, 3), (74, .iconst 1, 1), (75, .goto 4, 3), (78, .iconst 0, 1), (79, .istore 9, 2), (81, .iload 9, 2), (83, .ifCond .eq 8, 3), (86, .iload 6, 2), (88, .goto 4, 3), (91, .iload_n 3, 1), (92, .istore_n 3, 1), (93, .iload 9, 2), (95, .ifCond .eq 8, 3), (98, .iload 7, 2), (100, .goto 5, 3), (103, .iload 4, 2), (105, .istore 4, 2), (107, .iload 9, 2), (109, .ifCond .eq 8, 3), (112, .iload 8, 2), (114, .goto 5, 3), (117, .iload 5, 2), (119, .istore 5, 2), (121, .iinc 6 1, 3), (124, .goto (-113), 3), (127, .iload_n 3, 1), (128, .ireturn, 1)]
theorem kX8_best : ∀ q ∈ qX8_best, decode cX8_best q.1 = .ok q.2 := by decide +kernel
def f_X8_best_l11 (K : Nat → Nat × Nat) (v0 : Nat) (v1 : Int32) (v2 : Int32) : Nat → Mm → Int32 → Int32 → Int32 → Int32 → Option (Int32 × Mm)
  | 0, _, _, _, _, _ => none
  | n + 1, μ, v3, v4, v5, v6 => if 24 ≤ v6 then (some (v3, μ)) else (bd (f_X8_whyNot K μ v0 v1 v2 v6) fun x3 => if x3 = 0 then (bd (f_X8_badOf K μ v0 v2 v6) fun q6 => lt1 q6.1 fun x8 => lt1 q6.2 fun μ7 => bd (f_X8_priceOf K μ7 v0 v1 v2 v6) fun x10 => lt1 (α := Int32) (if v3 = (-1) then 1 else (if x8 < v4 then 1 else (if x8 = v4 then (if v5 ≤ x10 then 0 else 1) else 0))) fun x11 => lt1 (α := Int32) (if x11 = 0 then v3 else v6) fun x13 => lt1 (α := Int32) (if x11 = 0 then v4 else x8) fun x15 => lt1 (α := Int32) (if x11 = 0 then v5 else x10) fun x17 => lt1 (α := Int32) (v6 + 1) fun x19 => f_X8_best_l11 K v0 v1 v2 n μ7 x13 x15 x17 x19) else (lt1 (α := Int32) (v6 + 1) fun x5 => f_X8_best_l11 K v0 v1 v2 n μ v3 v4 v5 x5))
def f_X8_best (K : Nat → Nat × Nat) (μ : Mm) (a0 : Nat) (a1 : Int32) (a2 : Int32) : Option (Int32 × Mm) :=
  bd (f_X8_best_l11 K a0 a1 a2 FU μ (-1) 0 0 0) fun q27 => lt1 q27.1 fun x28 => lt1 q27.2 fun μ29 => some (x28, μ29)
set_option maxRecDepth 100000 in
set_option maxHeartbeats 4000000 in
theorem gl_X8_best_11 {l : Launch} {Z : ZZ} {X : XX} (v0 : Nat) (v1 : Int32) (v2 : Int32) (k0 : (zk Z v0).1 = 6) (C : Cx l Z false X cX8_best RX8 10 (some .int)) (E : xR X = rmm 4 0 0) : ∀ (n : Nat) (μ : Mm) (v3 : Int32) (v4 : Int32) (v5 : Int32) (v6 : Int32) (y : Int32 × Mm), f_X8_best_l11 (zk Z) v0 v1 v2 n μ v3 v4 v5 v6 = some y → G Z X 10 0 0 127 [(3, .int y.1)] [] y.2 → G Z X 10 0 0 11 [(0, .ref (za Z v0)), (1, .int v1), (2, .int v2), (3, .int v3), (4, .int v4), (5, .int v5), (6, .int v6)] [] μ := by
  intro n
  induction n with
  | zero => intro μ v3 v4 v5 v6 y h he; unfold f_X8_best_l11 at h; cases h
  | succ n ih =>
    intro μ v3 v4 v5 v6 y h he
    unfold f_X8_best_l11 at h
    refine g_iload C (i := 6) 6 rfl (dk kX8_best 8 rfl) ?_
    refine g_bipush C (v := 24) (by decide) (dk kX8_best 9 rfl) ?_
    refine g_icmp_ge C (tgt := 127) (dk kX8_best 10 rfl) (by decide) (fun c1 => ?_) (fun c1 => ?_)
    · replace h := ite_t h c1
      cases h
      exact g_sub [3] rfl he
    · replace h := ite_f h c1
      refine g_aload_n C (i := 0) 0 rfl rfl (dk kX8_best 11 rfl) ?_
      refine g_iload_n C (i := 1) 1 rfl rfl (dk kX8_best 12 rfl) ?_
      refine g_iload_n C (i := 2) 2 rfl rfl (dk kX8_best 13 rfl) ?_
      refine g_iload C (i := 6) 6 rfl (dk kX8_best 14 rfl) ?_
      obtain ⟨x3, eq2, h⟩ := bd_inv h
      refine g_callV C E (rest := []) 3 (ct_X8_whyNot k0 eq2) wd_5_148 mm_X8_whyNot ⟨rfl, by decide, by decide, by decide⟩ rfl (by decide) k0 (by decide) rfl rfl (Nat.le_of_ble_eq_true rfl) (by decide) (dk kX8_best 15 rfl) ?_
      refine g_if_ne C (tgt := 121) (dk kX8_best 16 rfl) (by decide) (fun c4 => ?_) (fun c4 => ?_)
      · replace h := ite_f h c4
        obtain ⟨x5, ex5, h⟩ := lt_inv h
        refine g_iinc C (i := 6) (v := x5) (lv' := [(6, .int x5), (0, .ref (za Z v0)), (1, .int v1), (2, .int v2), (3, .int v3), (4, .int v4), (5, .int v5)]) 6 (dk kX8_best 62 rfl) rfl (by rw [ex5]; rfl) (by decide) rfl ?_
        refine g_goto C (tgt := 11) (dk kX8_best 63 rfl) (by decide) ?_
        exact g_sub [1, 2, 3, 4, 5, 6, 0] rfl (ih μ v3 v4 v5 x5 y h he)
      · replace h := ite_t h c4
        refine g_aload_n C (i := 0) 0 rfl rfl (dk kX8_best 17 rfl) ?_
        refine g_iload_n C (i := 2) 2 rfl rfl (dk kX8_best 18 rfl) ?_
        refine g_iload C (i := 6) 6 rfl (dk kX8_best 19 rfl) ?_
        obtain ⟨q6, eq6, h⟩ := bd_inv h
        obtain ⟨x8, ex8, h⟩ := lt_inv h
        obtain ⟨μ7, eμ7, h⟩ := lt_inv h
        rw [show q6 = (x8, μ7) from by rw [ex8, eμ7]] at eq6
        refine g_callV C E (rest := []) 2 (ct_X8_badOf k0 eq6) wd_5_185 mm_X8_badOf ⟨rfl, by decide, by decide, by decide⟩ rfl (by decide) k0 (by decide) rfl rfl (Nat.le_of_ble_eq_true rfl) (by decide) (dk kX8_best 20 rfl) ?_
        refine g_istore C (i := 7) (lv' := [(7, .int x8), (0, .ref (za Z v0)), (1, .int v1), (2, .int v2), (3, .int v3), (4, .int v4), (5, .int v5), (6, .int v6)]) (dk kX8_best 21 rfl) (by decide) rfl ?_
        refine g_aload_n C (i := 0) 1 rfl rfl (dk kX8_best 22 rfl) ?_
        refine g_iload_n C (i := 1) 2 rfl rfl (dk kX8_best 23 rfl) ?_
        refine g_iload_n C (i := 2) 3 rfl rfl (dk kX8_best 24 rfl) ?_
        refine g_iload C (i := 6) 7 rfl (dk kX8_best 25 rfl) ?_
        obtain ⟨x10, eq9, h⟩ := bd_inv h
        refine g_callV C E (rest := []) 3 (ct_X8_priceOf k0 eq9) wd_5_163 mm_X8_priceOf ⟨rfl, by decide, by decide, by decide⟩ rfl (by decide) k0 (by decide) rfl rfl (Nat.le_of_ble_eq_true rfl) (by decide) (dk kX8_best 26 rfl) ?_
        refine g_istore C (i := 8) (lv' := [(8, .int x10), (7, .int x8), (0, .ref (za Z v0)), (1, .int v1), (2, .int v2), (3, .int v3), (4, .int v4), (5, .int v5), (6, .int v6)]) (dk kX8_best 27 rfl) (by decide) rfl ?_
        refine g_iload_n C (i := 3) 5 rfl rfl (dk kX8_best 28 rfl) ?_
        refine g_iconst C (v := (-1)) (by decide) (dk kX8_best 29 rfl) ?_
        obtain ⟨x11, ex11, h⟩ := lt_inv h
        have kj12 : G Z X 10 0 0 79 [(8, .int x10), (7, .int x8), (0, .ref (za Z v0)), (1, .int v1), (2, .int v2), (3, .int v3), (4, .int v4), (5, .int v5), (6, .int v6)] [.int x11] μ7 := by
          refine g_istore C (i := 9) (lv' := [(9, .int x11), (8, .int x10), (7, .int x8), (0, .ref (za Z v0)), (1, .int v1), (2, .int v2), (3, .int v3), (4, .int v4), (5, .int v5), (6, .int v6)]) (dk kX8_best 43 rfl) (by decide) rfl ?_
          refine g_iload C (i := 9) 0 rfl (dk kX8_best 44 rfl) ?_
          obtain ⟨x13, ex13, h⟩ := lt_inv h
          have kj14 : G Z X 10 0 0 92 [(9, .int x11), (8, .int x10), (7, .int x8), (0, .ref (za Z v0)), (1, .int v1), (2, .int v2), (3, .int v3), (4, .int v4), (5, .int v5), (6, .int v6)] [.int x13] μ7 := by
            refine g_istore_n C (i := 3) (lv' := [(3, .int x13), (9, .int x11), (8, .int x10), (7, .int x8), (0, .ref (za Z v0)), (1, .int v1), (2, .int v2), (4, .int v4), (5, .int v5), (6, .int v6)]) (dk kX8_best 49 rfl) rfl (by decide) rfl ?_
            refine g_iload C (i := 9) 1 rfl (dk kX8_best 50 rfl) ?_
            obtain ⟨x15, ex15, h⟩ := lt_inv h
            have kj16 : G Z X 10 0 0 105 [(3, .int x13), (9, .int x11), (8, .int x10), (7, .int x8), (0, .ref (za Z v0)), (1, .int v1), (2, .int v2), (4, .int v4), (5, .int v5), (6, .int v6)] [.int x15] μ7 := by
              refine g_istore C (i := 4) (lv' := [(4, .int x15), (3, .int x13), (9, .int x11), (8, .int x10), (7, .int x8), (0, .ref (za Z v0)), (1, .int v1), (2, .int v2), (5, .int v5), (6, .int v6)]) (dk kX8_best 55 rfl) (by decide) rfl ?_
              refine g_iload C (i := 9) 2 rfl (dk kX8_best 56 rfl) ?_
              obtain ⟨x17, ex17, h⟩ := lt_inv h
              have kj18 : G Z X 10 0 0 119 [(4, .int x15), (3, .int x13), (9, .int x11), (8, .int x10), (7, .int x8), (0, .ref (za Z v0)), (1, .int v1), (2, .int v2), (5, .int v5), (6, .int v6)] [.int x17] μ7 := by
                refine g_istore C (i := 5) (lv' := [(5, .int x17), (4, .int x15), (3, .int x13), (9, .int x11), (8, .int x10), (7, .int x8), (0, .ref (za Z v0)), (1, .int v1), (2, .int v2), (6, .int v6)]) (dk kX8_best 61 rfl) (by decide) rfl ?_
                obtain ⟨x19, ex19, h⟩ := lt_inv h
                refine g_iinc C (i := 6) (v := x19) (lv' := [(6, .int x19), (5, .int x17), (4, .int x15), (3, .int x13), (9, .int x11), (8, .int x10), (7, .int x8), (0, .ref (za Z v0)), (1, .int v1), (2, .int v2)]) 9 (dk kX8_best 62 rfl) rfl (by rw [ex19]; rfl) (by decide) rfl ?_
                refine g_goto C (tgt := 11) (dk kX8_best 63 rfl) (by decide) ?_
                exact g_sub [7, 8, 9, 3, 2, 1, 0] rfl (ih μ7 x13 x15 x17 x19 y h he)
              clear h
              refine g_if_eq C (tgt := 117) (dk kX8_best 57 rfl) (by decide) (fun c20 => ?_) (fun c20 => ?_)
              · refine g_iload C (i := 5) 8 rfl (dk kX8_best 60 rfl) ?_
                exact g_nmi (by rw [ex17, if_pos c20]) kj18
              · refine g_iload C (i := 8) 3 rfl (dk kX8_best 58 rfl) ?_
                refine g_goto C (tgt := 119) (dk kX8_best 59 rfl) (by decide) ?_
                exact g_nmi (by rw [ex17, if_neg c20]) kj18
            clear h
            refine g_if_eq C (tgt := 103) (dk kX8_best 51 rfl) (by decide) (fun c21 => ?_) (fun c21 => ?_)
            · refine g_iload C (i := 4) 7 rfl (dk kX8_best 54 rfl) ?_
              exact g_nmi (by rw [ex15, if_pos c21]) kj16
            · refine g_iload C (i := 7) 3 rfl (dk kX8_best 52 rfl) ?_
              refine g_goto C (tgt := 105) (dk kX8_best 53 rfl) (by decide) ?_
              exact g_nmi (by rw [ex15, if_neg c21]) kj16
          clear h
          refine g_if_eq C (tgt := 91) (dk kX8_best 45 rfl) (by decide) (fun c22 => ?_) (fun c22 => ?_)
          · refine g_iload_n C (i := 3) 6 rfl rfl (dk kX8_best 48 rfl) ?_
            exact g_nmi (by rw [ex13, if_pos c22]) kj14
          · refine g_iload C (i := 6) 9 rfl (dk kX8_best 46 rfl) ?_
            refine g_goto C (tgt := 92) (dk kX8_best 47 rfl) (by decide) ?_
            exact g_nmi (by rw [ex13, if_neg c22]) kj14
        clear h
        refine g_icmp_eq C (tgt := 74) (dk kX8_best 30 rfl) (by decide) (fun c23 => ?_) (fun c23 => ?_)
        · refine g_iconst C (v := 1) (by decide) (dk kX8_best 40 rfl) ?_
          refine g_goto C (tgt := 79) (dk kX8_best 41 rfl) (by decide) ?_
          exact g_nmi (by rw [ex11, if_pos c23]) kj12
        · refine g_iload C (i := 7) 1 rfl (dk kX8_best 31 rfl) ?_
          refine g_iload C (i := 4) 6 rfl (dk kX8_best 32 rfl) ?_
          refine g_icmp_lt C (tgt := 74) (dk kX8_best 33 rfl) (by decide) (fun c24 => ?_) (fun c24 => ?_)
          · refine g_iconst C (v := 1) (by decide) (dk kX8_best 40 rfl) ?_
            refine g_goto C (tgt := 79) (dk kX8_best 41 rfl) (by decide) ?_
            exact g_nmi (by rw [ex11, if_neg c23, if_pos c24]) kj12
          · refine g_iload C (i := 7) 1 rfl (dk kX8_best 34 rfl) ?_
            refine g_iload C (i := 4) 6 rfl (dk kX8_best 35 rfl) ?_
            refine g_icmp_ne C (tgt := 78) (dk kX8_best 36 rfl) (by decide) (fun c25 => ?_) (fun c25 => ?_)
            · refine g_iconst C (v := 0) (by decide) (dk kX8_best 42 rfl) ?_
              exact g_nmi (by rw [ex11, if_neg c23, if_neg c24, if_neg c25]) kj12
            · refine g_iload C (i := 8) 0 rfl (dk kX8_best 37 rfl) ?_
              refine g_iload C (i := 5) 7 rfl (dk kX8_best 38 rfl) ?_
              refine g_icmp_ge C (tgt := 78) (dk kX8_best 39 rfl) (by decide) (fun c26 => ?_) (fun c26 => ?_)
              · refine g_iconst C (v := 0) (by decide) (dk kX8_best 42 rfl) ?_
                exact g_nmi (by rw [ex11, if_neg c23, if_neg c24, if_pos c25, if_pos c26]) kj12
              · refine g_iconst C (v := 1) (by decide) (dk kX8_best 40 rfl) ?_
                refine g_goto C (tgt := 79) (dk kX8_best 41 rfl) (by decide) ?_
                exact g_nmi (by rw [ex11, if_neg c23, if_neg c24, if_pos c25, if_neg c26]) kj12
set_option maxRecDepth 100000 in
set_option maxHeartbeats 4000000 in
theorem t_X8_best {l : Launch} {Z : ZZ} {X : XX} (μ : Mm) (a0 : Nat) (a1 : Int32) (a2 : Int32) (r : Int32) (μ' : Mm) (k0 : (zk Z a0).1 = 6) (h : f_X8_best (zk Z) μ a0 a1 a2 = some (r, μ')) (C : Cx l Z false X cX8_best RX8 10 (some .int)) (E : Ex Z X 4 0 0 (some (.int r)) Z μ') : G Z X 10 0 0 0 [(0, .ref (za Z a0)), (1, .int a1), (2, .int a2)] [] μ := by
  unfold f_X8_best at h
  refine g_iconst C (v := (-1)) (by decide) (dk kX8_best 0 rfl) ?_
  refine g_istore_n C (i := 3) (lv' := [(3, .int (-1)), (0, .ref (za Z a0)), (1, .int a1), (2, .int a2)]) (dk kX8_best 1 rfl) rfl (by decide) rfl ?_
  refine g_iconst C (v := 0) (by decide) (dk kX8_best 2 rfl) ?_
  refine g_istore C (i := 4) (lv' := [(4, .int 0), (3, .int (-1)), (0, .ref (za Z a0)), (1, .int a1), (2, .int a2)]) (dk kX8_best 3 rfl) (by decide) rfl ?_
  refine g_iconst C (v := 0) (by decide) (dk kX8_best 4 rfl) ?_
  refine g_istore C (i := 5) (lv' := [(5, .int 0), (4, .int 0), (3, .int (-1)), (0, .ref (za Z a0)), (1, .int a1), (2, .int a2)]) (dk kX8_best 5 rfl) (by decide) rfl ?_
  refine g_iconst C (v := 0) (by decide) (dk kX8_best 6 rfl) ?_
  refine g_istore C (i := 6) (lv' := [(6, .int 0), (5, .int 0), (4, .int 0), (3, .int (-1)), (0, .ref (za Z a0)), (1, .int a1), (2, .int a2)]) (dk kX8_best 7 rfl) (by decide) rfl ?_
  obtain ⟨q27, eq27, h⟩ := bd_inv h
  refine g_sub [4, 5, 6, 3, 2, 1, 0] (lv' := [(0, .ref (za Z a0)), (1, .int a1), (2, .int a2), (3, .int (-1)), (4, .int 0), (5, .int 0), (6, .int 0)]) rfl ?_
  refine gl_X8_best_11 a0 a1 a2 k0 C E.2 FU μ (-1) 0 0 0 _ eq27 ?_
  obtain ⟨x28, ex28, h⟩ := lt_inv h
  obtain ⟨μ29, eμ29, h⟩ := lt_inv h
  rw [← ex28, ← eμ29]
  refine g_iload_n C (i := 3) 0 rfl rfl (dk kX8_best 64 rfl) ?_
  obtain ⟨h8, h9⟩ := Prod.mk.inj (Option.some.inj h)
  subst h8
  subst h9
  exact g_iret C E rfl rfl (Nat.le_refl 0) (Nat.le_refl 0) (dk kX8_best 65 rfl)
theorem ct_X8_best {l : Launch} {Z : ZZ} {μ : Mm} {a0 : Nat} {a1 : Int32} {a2 : Int32} {r : Int32} {μ' : Mm} (k0 : (zk Z a0).1 = 6) (h : f_X8_best (zk Z) μ a0 a1 a2 = some (r, μ')) : CtM l Z false yX8_best cX8_best 10 (some .int) 4 0 0 [.ref (za Z a0), .int a1, .int a2] μ (some (.int r)) Z μ' := ct_of rfl rfl (Nat.le_of_ble_eq_true rfl) (fun X C E => t_X8_best μ a0 a1 a2 r μ' k0 h C E)
