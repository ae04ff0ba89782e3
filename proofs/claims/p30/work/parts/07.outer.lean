def qX7_refuse : List (Nat × Instr × Nat) := [(0, .iload_n 0, 1), (1, .iconst 1, 1), (2, .if_icmp .ne 13, 3), (5, .new 249, 3), (8, .dup, 1), (9, .ldc 251, 2), (11, .invokespecial 253, 3), (14, .athrow, 1), (15, .iload_n 0, 1), (16, .iconst 2, 1), (17, .if_icmp .ne 14, 3), (20, .new 256, 3), (23, .dup, 1), (24, .ldc_w 258, 3), (27, .invokespecial 260, 3), (30, .athrow, 1), (31, .iload_n 0, 1), (32, .iconst 3, 1), (33, .if_icmp .ne 14, 3), (36, .new 261, 3), (39, .dup, 1), (40, .ldc_w 263, 3), (43, .invokespecial 265, 3), (46, .athrow, 1), (47, .return_, 1)]
theorem kX7_refuse : ∀ q ∈ qX7_refuse, decode cX7_refuse q.1 = .ok q.2 := by decide +kernel
def f_X7_refuse (a0 : Int32) : Option (Unit) :=
  if a0 = 1 then (none) else (if a0 = 2 then (none) else (if a0 = 3 then (none) else (some ())))
set_option maxRecDepth 100000 in
set_option maxHeartbeats 4000000 in
theorem t_X7_refuse {l : Launch} {Z : ZZ} {X : XX} (μ : Mm) (a0 : Int32)  (h : f_X7_refuse a0 = some ()) (C : Cx l Z false X cX7_refuse RX7 1 none) (E : Ex Z X 0 0 0 none Z μ) : G Z X 1 0 0 0 [(0, .int a0)] [] μ := by
  unfold f_X7_refuse at h
  refine g_iload_n C (i := 0) 0 rfl rfl (dk kX7_refuse 0 rfl) ?_
  refine g_iconst C (v := 1) (by decide) (dk kX7_refuse 1 rfl) ?_
  refine g_icmp_ne C (tgt := 15) (dk kX7_refuse 2 rfl) (by decide) (fun c1 => ?_) (fun c1 => ?_)
  · replace h := ite_f h c1
    refine g_iload_n C (i := 0) 0 rfl rfl (dk kX7_refuse 8 rfl) ?_
    refine g_iconst C (v := 2) (by decide) (dk kX7_refuse 9 rfl) ?_
    refine g_icmp_ne C (tgt := 31) (dk kX7_refuse 10 rfl) (by decide) (fun c2 => ?_) (fun c2 => ?_)
    · replace h := ite_f h c2
      refine g_iload_n C (i := 0) 0 rfl rfl (dk kX7_refuse 16 rfl) ?_
      refine g_iconst C (v := 3) (by decide) (dk kX7_refuse 17 rfl) ?_
      refine g_icmp_ne C (tgt := 47) (dk kX7_refuse 18 rfl) (by decide) (fun c3 => ?_) (fun c3 => ?_)
      · replace h := ite_f h c3
        cases h
        exact g_vret C E (Nat.le_refl 0) (Nat.le_refl 0) (dk kX7_refuse 24 rfl)
      · replace h := ite_t h c3
        cases h
    · replace h := ite_t h c2
      cases h
  · replace h := ite_t h c1
    cases h
theorem ct_X7_refuse {l : Launch} {Z : ZZ} {μ : Mm} {a0 : Int32}  (h : f_X7_refuse a0 = some ()) : CtM l Z false yX7_refuse cX7_refuse 1 none 0 0 0 [.int a0] μ none Z μ := ct_of rfl rfl (Nat.le_of_ble_eq_true rfl) (fun X C E => t_X7_refuse μ a0  h C E)

def qX7_save : List (Nat × Instr × Nat) := [(0, .aload_n 0, 1), (1, .getfield 209, 3), (4, .iconst 4, 1), (5, .if_icmp .ne 54, 3), (8, .aload_n 0, 1), (9, .getfield 18, 3), (12, .iconst 0, 1), (13, .aaload, 1), (14, .astore_n 1, 1), (15, .iconst 1, 1), (16, .istore_n 2, 1), (17, .iload_n 2, 1), (18, .iconst 4, 1), (19, .if_icmp .ge 23, 3), (22, .aload_n 0, 1), (23, .getfield 18, 3), (26, .iload_n 2, 1), (27, .iconst 1, 1), (28, .isub, 1), (29, .aload_n 0, 1), (30, .getfield 18, 3), (33, .iload_n 2, 1), (34, .aaload, 1), (35, .aastore, 1), (36, .iinc 2 1, 3), (39, .goto (-22), 3), (42, .aload_n 0, 1), (43, .getfield 18, 3), (46, .iconst 3, 1), (47, .aload_n 1, 1), (48, .aastore, 1), (49, .aload_n 0, 1), (50, .dup, 1), (51, .getfield 209, 3), (54, .iconst 1, 1), (55, .isub, 1), (56, .putfield 209, 3), (59, .aload_n 0, 1), (60, .getfield 18, 3), (63, .aload_n 0, 1), (64, .getfield 209, 3), (67, .aaload, 1), (68, .aload_n 0, 1), (69, .getfield 28, 3), (72, .invokevirtual 212, 3), (75, .aload_n 0, 1), (76, .dup, 1), (77, .getfield 209, 3), (80, .iconst 1, 1), (81, .iadd, 1), (82, .putfield 209, 3), (85, .return_, 1)]
theorem kX7_save : ∀ q ∈ qX7_save, decode cX7_save q.1 = .ok q.2 := by decide +kernel
def f_X7_save_l17 (K : Nat → Nat × Nat) (v0 : Nat) (v1 : Nat) : Nat → Mm → Int32 → Option (Mm)
  | 0, _, _ => none
  | n + 1, μ, v2 => if 4 ≤ v2 then (some μ) else (bd (rf K μ v0 1 11) fun b13 => bd (rf K μ v0 1 11) fun b14 => gd (inb v2 (K b14).2) <| bd (rf K μ b14 (ix v2) 4) fun b16 => gd (inb (v2 - 1) (K b13).2) <| lt1 (sR μ b13 (ix (v2 - 1)) (some b16)) fun μ18 => lt1 (α := Int32) (v2 + 1) fun x19 => f_X7_save_l17 K v0 v1 n μ18 x19)
def f_X7_save (K : Nat → Nat × Nat) (μ : Mm) (a0 : Nat) : Option (Mm) :=
  if (μ.1 a0 2) = 4 then (bd (rf K μ a0 1 11) fun b9 => gd (inb 0 (K b9).2) <| bd (rf K μ b9 (ix 0) 4) fun b11 => bd (f_X7_save_l17 K a0 b11 FU μ 1) fun q20 => lt1 q20 fun μ21 => bd (rf K μ21 a0 1 11) fun b22 => gd (inb 3 (K b22).2) <| lt1 (sR μ21 b22 (ix 3) (some b11)) fun μ24 => lt1 (sI μ24 a0 2 ((μ24.1 a0 2) - 1)) fun μ25 => bd (rf K μ25 a0 1 11) fun b26 => gd (inb (μ25.1 a0 2) (K b26).2) <| bd (rf K μ25 b26 (ix (μ25.1 a0 2)) 4) fun b28 => bd (rf K μ25 a0 3 4) fun b29 => bd (f_X5_takeOver K μ25 b28 b29) fun μ31 => lt1 (sI μ31 a0 2 ((μ31.1 a0 2) + 1)) fun μ32 => some (μ32)) else (bd (rf K μ a0 1 11) fun b2 => gd (inb (μ.1 a0 2) (K b2).2) <| bd (rf K μ b2 (ix (μ.1 a0 2)) 4) fun b4 => bd (rf K μ a0 3 4) fun b5 => bd (f_X5_takeOver K μ b4 b5) fun μ7 => lt1 (sI μ7 a0 2 ((μ7.1 a0 2) + 1)) fun μ8 => some (μ8))
set_option maxRecDepth 100000 in
set_option maxHeartbeats 4000000 in
theorem gl_X7_save_17 {l : Launch} {Z : ZZ} {X : XX} (v0 : Nat) (v1 : Nat) (k0 : (zk Z v0).1 = 5) (k1 : (zk Z v1).1 = 4) (C : Cx l Z false X cX7_save RX7 3 none) (E : xR X = rmm 3 0 0) : ∀ (n : Nat) (μ : Mm) (v2 : Int32) (y : Mm), f_X7_save_l17 (zk Z) v0 v1 n μ v2 = some y → G Z X 3 0 0 42 [(0, .ref (za Z v0)), (1, .ref (za Z v1))] [] y → G Z X 3 0 0 17 [(0, .ref (za Z v0)), (1, .ref (za Z v1)), (2, .int v2)] [] μ := by
  intro n
  induction n with
  | zero => intro μ v2 y h he; unfold f_X7_save_l17 at h; cases h
  | succ n ih =>
    intro μ v2 y h he
    unfold f_X7_save_l17 at h
    refine g_iload_n C (i := 2) 2 rfl rfl (dk kX7_save 11 rfl) ?_
    refine g_iconst C (v := 4) (by decide) (dk kX7_save 12 rfl) ?_
    refine g_icmp_ge C (tgt := 42) (dk kX7_save 13 rfl) (by decide) (fun c12 => ?_) (fun c12 => ?_)
    · replace h := ite_t h c12
      cases h
      exact g_sub [0, 1] rfl he
    · replace h := ite_f h c12
      refine g_aload_n C (i := 0) 0 rfl rfl (dk kX7_save 14 rfl) ?_
      obtain ⟨b13, eb13, h⟩ := bd_inv h
      obtain ⟨rb13, kb13⟩ := rf_inv eb13
      refine gR_5_1 C k0 (C.w wd_1_188) rb13 (dk kX7_save 15 rfl) ?_
      refine g_iload_n C (i := 2) 2 rfl rfl (dk kX7_save 16 rfl) ?_
      refine g_iconst C (v := 1) (by decide) (dk kX7_save 17 rfl) ?_
      refine g_isub C (dk kX7_save 18 rfl) ?_
      refine g_aload_n C (i := 0) 0 rfl rfl (dk kX7_save 19 rfl) ?_
      obtain ⟨b14, eb14, h⟩ := bd_inv h
      obtain ⟨rb14, kb14⟩ := rf_inv eb14
      refine gR_5_1 C k0 (C.w wd_1_188) rb14 (dk kX7_save 20 rfl) ?_
      refine g_iload_n C (i := 2) 2 rfl rfl (dk kX7_save 21 rfl) ?_
      obtain ⟨c15, h⟩ := gd_inv h
      obtain ⟨b16, eb16, h⟩ := bd_inv h
      obtain ⟨rb16, kb16⟩ := rf_inv eb16
      refine gA_11 C kb14 c15 rb16 (dk kX7_save 22 rfl) ?_
      obtain ⟨c17, h⟩ := gd_inv h
      obtain ⟨μ18, eμ18, h⟩ := lt_inv h
      refine pA_11 C kb13 c17 kb16 eμ18 (dk kX7_save 23 rfl) ?_
      obtain ⟨x19, ex19, h⟩ := lt_inv h
      refine g_iinc C (i := 2) (v := x19) (lv' := [(2, .int x19), (0, .ref (za Z v0)), (1, .ref (za Z v1))]) 2 (dk kX7_save 24 rfl) rfl (by rw [ex19]; rfl) (by decide) rfl ?_
      refine g_goto C (tgt := 17) (dk kX7_save 25 rfl) (by decide) ?_
      exact g_sub [1, 2, 0] rfl (ih μ18 x19 y h he)
set_option maxRecDepth 100000 in
set_option maxHeartbeats 4000000 in
theorem t_X7_save {l : Launch} {Z : ZZ} {X : XX} (μ : Mm) (a0 : Nat) (μ' : Mm) (k0 : (zk Z a0).1 = 5) (h : f_X7_save (zk Z) μ a0 = some μ') (C : Cx l Z false X cX7_save RX7 3 none) (E : Ex Z X 3 0 0 none Z μ') : G Z X 3 0 0 0 [(0, .ref (za Z a0))] [] μ := by
  unfold f_X7_save at h
  refine g_aload_n C (i := 0) 0 rfl rfl (dk kX7_save 0 rfl) ?_
  refine gI_5_2 C k0 (C.w wd_1_189) (dk kX7_save 1 rfl) ?_
  refine g_iconst C (v := 4) (by decide) (dk kX7_save 2 rfl) ?_
  refine g_icmp_ne C (tgt := 59) (dk kX7_save 3 rfl) (by decide) (fun c1 => ?_) (fun c1 => ?_)
  · replace h := ite_f h c1
    refine g_aload_n C (i := 0) 0 rfl rfl (dk kX7_save 37 rfl) ?_
    obtain ⟨b2, eb2, h⟩ := bd_inv h
    obtain ⟨rb2, kb2⟩ := rf_inv eb2
    refine gR_5_1 C k0 (C.w wd_1_188) rb2 (dk kX7_save 38 rfl) ?_
    refine g_aload_n C (i := 0) 0 rfl rfl (dk kX7_save 39 rfl) ?_
    refine gI_5_2 C k0 (C.w wd_1_189) (dk kX7_save 40 rfl) ?_
    obtain ⟨c3, h⟩ := gd_inv h
    obtain ⟨b4, eb4, h⟩ := bd_inv h
    obtain ⟨rb4, kb4⟩ := rf_inv eb4
    refine gA_11 C kb2 c3 rb4 (dk kX7_save 41 rfl) ?_
    refine g_aload_n C (i := 0) 0 rfl rfl (dk kX7_save 42 rfl) ?_
    obtain ⟨b5, eb5, h⟩ := bd_inv h
    obtain ⟨rb5, kb5⟩ := rf_inv eb5
    refine gR_5_3 C k0 (C.w wd_1_190) rb5 (dk kX7_save 43 rfl) ?_
    obtain ⟨μ7, eq6, h⟩ := bd_inv h
    refine g_callV C E.2 (rest := []) 1 (ct_X5_takeOver kb4 kb5 eq6) wd_2_91 mm_X5_takeOver ⟨rfl, by decide, by decide, by decide⟩ rfl (by decide) kb4 (by decide) rfl rfl (Nat.le_of_ble_eq_true rfl) (by decide) (dk kX7_save 44 rfl) ?_
    refine g_aload_n C (i := 0) 0 rfl rfl (dk kX7_save 45 rfl) ?_
    refine g_dup C rfl (dk kX7_save 46 rfl) ?_
    refine gI_5_2 C k0 (C.w wd_1_189) (dk kX7_save 47 rfl) ?_
    refine g_iconst C (v := 1) (by decide) (dk kX7_save 48 rfl) ?_
    refine g_iadd C (dk kX7_save 49 rfl) ?_
    obtain ⟨μ8, eμ8, h⟩ := lt_inv h
    refine pI_5_2 C k0 (C.w wd_1_189) eμ8 (dk kX7_save 50 rfl) ?_
    have h9 := Option.some.inj h
    subst h9
    exact g_vret C E (Nat.le_refl 0) (Nat.le_refl 0) (dk kX7_save 51 rfl)
  · replace h := ite_t h c1
    refine g_aload_n C (i := 0) 0 rfl rfl (dk kX7_save 4 rfl) ?_
    obtain ⟨b9, eb9, h⟩ := bd_inv h
    obtain ⟨rb9, kb9⟩ := rf_inv eb9
    refine gR_5_1 C k0 (C.w wd_1_188) rb9 (dk kX7_save 5 rfl) ?_
    refine g_iconst C (v := 0) (by decide) (dk kX7_save 6 rfl) ?_
    obtain ⟨c10, h⟩ := gd_inv h
    obtain ⟨b11, eb11, h⟩ := bd_inv h
    obtain ⟨rb11, kb11⟩ := rf_inv eb11
    refine gA_11 C kb9 c10 rb11 (dk kX7_save 7 rfl) ?_
    refine g_astore_n C (i := 1) (lv' := [(1, .ref (za Z b11)), (0, .ref (za Z a0))]) (dk kX7_save 8 rfl) rfl (by decide) rfl ?_
    refine g_iconst C (v := 1) (by decide) (dk kX7_save 9 rfl) ?_
    refine g_istore_n C (i := 2) (lv' := [(2, .int 1), (1, .ref (za Z b11)), (0, .ref (za Z a0))]) (dk kX7_save 10 rfl) rfl (by decide) rfl ?_
    obtain ⟨q20, eq20, h⟩ := bd_inv h
    refine g_sub [2, 1, 0] (lv' := [(0, .ref (za Z a0)), (1, .ref (za Z b11)), (2, .int 1)]) rfl ?_
    refine gl_X7_save_17 a0 b11 k0 kb11 C E.2 FU μ 1 _ eq20 ?_
    obtain ⟨μ21, eμ21, h⟩ := lt_inv h
    rw [← eμ21]
    refine g_aload_n C (i := 0) 0 rfl rfl (dk kX7_save 26 rfl) ?_
    obtain ⟨b22, eb22, h⟩ := bd_inv h
    obtain ⟨rb22, kb22⟩ := rf_inv eb22
    refine gR_5_1 C k0 (C.w wd_1_188) rb22 (dk kX7_save 27 rfl) ?_
    refine g_iconst C (v := 3) (by decide) (dk kX7_save 28 rfl) ?_
    refine g_aload_n C (i := 1) 1 rfl rfl (dk kX7_save 29 rfl) ?_
    obtain ⟨c23, h⟩ := gd_inv h
    obtain ⟨μ24, eμ24, h⟩ := lt_inv h
    refine pA_11 C kb22 c23 kb11 eμ24 (dk kX7_save 30 rfl) ?_
    refine g_aload_n C (i := 0) 0 rfl rfl (dk kX7_save 31 rfl) ?_
    refine g_dup C rfl (dk kX7_save 32 rfl) ?_
    refine gI_5_2 C k0 (C.w wd_1_189) (dk kX7_save 33 rfl) ?_
    refine g_iconst C (v := 1) (by decide) (dk kX7_save 34 rfl) ?_
    refine g_isub C (dk kX7_save 35 rfl) ?_
    obtain ⟨μ25, eμ25, h⟩ := lt_inv h
    refine pI_5_2 C k0 (C.w wd_1_189) eμ25 (dk kX7_save 36 rfl) ?_
    refine g_aload_n C (i := 0) 0 rfl rfl (dk kX7_save 37 rfl) ?_
    obtain ⟨b26, eb26, h⟩ := bd_inv h
    obtain ⟨rb26, kb26⟩ := rf_inv eb26
    refine gR_5_1 C k0 (C.w wd_1_188) rb26 (dk kX7_save 38 rfl) ?_
    refine g_aload_n C (i := 0) 0 rfl rfl (dk kX7_save 39 rfl) ?_
    refine gI_5_2 C k0 (C.w wd_1_189) (dk kX7_save 40 rfl) ?_
    obtain ⟨c27, h⟩ := gd_inv h
    obtain ⟨b28, eb28, h⟩ := bd_inv h
    obtain ⟨rb28, kb28⟩ := rf_inv eb28
    refine gA_11 C kb26 c27 rb28 (dk kX7_save 41 rfl) ?_
    refine g_aload_n C (i := 0) 0 rfl rfl (dk kX7_save 42 rfl) ?_
    obtain ⟨b29, eb29, h⟩ := bd_inv h
    obtain ⟨rb29, kb29⟩ := rf_inv eb29
    refine gR_5_3 C k0 (C.w wd_1_190) rb29 (dk kX7_save 43 rfl) ?_
    obtain ⟨μ31, eq30, h⟩ := bd_inv h
    refine g_callV C E.2 (rest := []) 1 (ct_X5_takeOver kb28 kb29 eq30) wd_2_91 mm_X5_takeOver ⟨rfl, by decide, by decide, by decide⟩ rfl (by decide) kb28 (by decide) rfl rfl (Nat.le_of_ble_eq_true rfl) (by decide) (dk kX7_save 44 rfl) ?_
    refine g_aload_n C (i := 0) 0 rfl rfl (dk kX7_save 45 rfl) ?_
    refine g_dup C rfl (dk kX7_save 46 rfl) ?_
    refine gI_5_2 C k0 (C.w wd_1_189) (dk kX7_save 47 rfl) ?_
    refine g_iconst C (v := 1) (by decide) (dk kX7_save 48 rfl) ?_
    refine g_iadd C (dk kX7_save 49 rfl) ?_
    obtain ⟨μ32, eμ32, h⟩ := lt_inv h
    refine pI_5_2 C k0 (C.w wd_1_189) eμ32 (dk kX7_save 50 rfl) ?_
    have h9 := Option.some.inj h
    subst h9
    exact g_vret C E (Nat.le_refl 0) (Nat.le_refl 0) (dk kX7_save 51 rfl)
theorem ct_X7_save {l : Launch} {Z : ZZ} {μ : Mm} {a0 : Nat} {μ' : Mm} (k0 : (zk Z a0).1 = 5) (h : f_X7_save (zk Z) μ a0 = some μ') : CtM l Z false yX7_save cX7_save 3 none 3 0 0 [.ref (za Z a0)] μ none Z μ' := ct_of rfl rfl (Nat.le_of_ble_eq_true rfl) (fun X C E => t_X7_save μ a0 μ' k0 h C E)

def qX7_addCustomer : List (Nat × Instr × Nat) := [(0, .aload_n 0, 1), (1, .getfield 28, 3), (4, .invokevirtual 78, 3), (7, .invokestatic 36, 3), (10, .aload_n 0, 1), (11, .invokevirtual 40, 3), (14, .aload_n 0, 1), (15, .getfield 28, 3), (18, .invokevirtual 82, 3), (21, .ireturn, 1)]
theorem kX7_addCustomer : ∀ q ∈ qX7_addCustomer, decode cX7_addCustomer q.1 = .ok q.2 := by decide +kernel
def f_X7_addCustomer (K : Nat → Nat × Nat) (μ : Mm) (a0 : Nat) : Option (Int32 × Mm) :=
  bd (rf K μ a0 3 4) fun b1 => bd (f_X5_whyNotNewCustomer K μ b1) fun x3 => bd (f_X7_refuse x3) fun q4 => bd (f_X7_save K μ a0) fun μ6 => bd (rf K μ6 a0 3 4) fun b7 => bd (f_X5_newCustomer K μ6 b7) fun q8 => lt1 q8.1 fun x10 => lt1 q8.2 fun μ9 => some (x10, μ9)
set_option maxRecDepth 100000 in
set_option maxHeartbeats 4000000 in
theorem t_X7_addCustomer {l : Launch} {Z : ZZ} {X : XX} (μ : Mm) (a0 : Nat) (r : Int32) (μ' : Mm) (k0 : (zk Z a0).1 = 5) (h : f_X7_addCustomer (zk Z) μ a0 = some (r, μ')) (C : Cx l Z false X cX7_addCustomer RX7 1 (some .int)) (E : Ex Z X 4 0 0 (some (.int r)) Z μ') : G Z X 1 0 0 0 [(0, .ref (za Z a0))] [] μ := by
  unfold f_X7_addCustomer at h
  refine g_aload_n C (i := 0) 0 rfl rfl (dk kX7_addCustomer 0 rfl) ?_
  obtain ⟨b1, eb1, h⟩ := bd_inv h
  obtain ⟨rb1, kb1⟩ := rf_inv eb1
  refine gR_5_3 C k0 (C.w wd_1_190) rb1 (dk kX7_addCustomer 1 rfl) ?_
  obtain ⟨x3, eq2, h⟩ := bd_inv h
  refine g_callV C E.2 (rest := []) 0 (ct_X5_whyNotNewCustomer kb1 eq2) wd_3_5 mm_X5_whyNotNewCustomer ⟨rfl, by decide, by decide, by decide⟩ rfl (by decide) kb1 (by decide) rfl rfl (Nat.le_of_ble_eq_true rfl) (by decide) (dk kX7_addCustomer 2 rfl) ?_
  obtain ⟨q4, eq4, h⟩ := bd_inv h
  refine g_callS C E.2 (rest := []) 1 (ct_X7_refuse  eq4) wd_1_224 mm_X7_refuse ⟨by decide, by decide, by decide⟩ rfl (by decide) rfl (Nat.le_of_ble_eq_true rfl) (by decide) (dk kX7_addCustomer 3 rfl) ?_
  refine g_aload_n C (i := 0) 0 rfl rfl (dk kX7_addCustomer 4 rfl) ?_
  obtain ⟨μ6, eq5, h⟩ := bd_inv h
  refine g_callV C E.2 (rest := []) 0 (ct_X7_save k0 eq5) wd_2_87 mm_X7_save ⟨rfl, by decide, by decide, by decide⟩ rfl (by decide) k0 (by decide) rfl rfl (Nat.le_of_ble_eq_true rfl) (by decide) (dk kX7_addCustomer 5 rfl) ?_
  refine g_aload_n C (i := 0) 0 rfl rfl (dk kX7_addCustomer 6 rfl) ?_
  obtain ⟨b7, eb7, h⟩ := bd_inv h
  obtain ⟨rb7, kb7⟩ := rf_inv eb7
  refine gR_5_3 C k0 (C.w wd_1_190) rb7 (dk kX7_addCustomer 7 rfl) ?_
  obtain ⟨q8, eq8, h⟩ := bd_inv h
  obtain ⟨x10, ex10, h⟩ := lt_inv h
  obtain ⟨μ9, eμ9, h⟩ := lt_inv h
  rw [show q8 = (x10, μ9) from by rw [ex10, eμ9]] at eq8
  refine g_callV C E.2 (rest := []) 0 (ct_X5_newCustomer kb7 eq8) wd_3_9 mm_X5_newCustomer ⟨rfl, by decide, by decide, by decide⟩ rfl (by decide) kb7 (by decide) rfl rfl (Nat.le_of_ble_eq_true rfl) (by decide) (dk kX7_addCustomer 8 rfl) ?_
  obtain ⟨h8, h9⟩ := Prod.mk.inj (Option.some.inj h)
  subst h8
  subst h9
  exact g_iret C E rfl rfl (Nat.le_refl 0) (Nat.le_refl 0) (dk kX7_addCustomer 9 rfl)
theorem ct_X7_addCustomer {l : Launch} {Z : ZZ} {μ : Mm} {a0 : Nat} {r : Int32} {μ' : Mm} (k0 : (zk Z a0).1 = 5) (h : f_X7_addCustomer (zk Z) μ a0 = some (r, μ')) : CtM l Z false yX7_addCustomer cX7_addCustomer 1 (some .int) 4 0 0 [.ref (za Z a0)] μ (some (.int r)) Z μ' := ct_of rfl rfl (Nat.le_of_ble_eq_true rfl) (fun X C E => t_X7_addCustomer μ a0 r μ' k0 h C E)

def qX7_addLabel : List (Nat × Instr × Nat) := [(0, .aload_n 0, 1), (1, .getfield 28, 3), (4, .iload_n 1, 1), (5, .iload_n 2, 1), (6, .invokevirtual 53, 3), (9, .invokestatic 36, 3), (12, .aload_n 0, 1), (13, .invokevirtual 40, 3), (16, .aload_n 0, 1), (17, .getfield 28, 3), (20, .iload_n 1, 1), (21, .iload_n 2, 1), (22, .invokevirtual 56, 3), (25, .ireturn, 1)]
theorem kX7_addLabel : ∀ q ∈ qX7_addLabel, decode cX7_addLabel q.1 = .ok q.2 := by decide +kernel
def f_X7_addLabel (K : Nat → Nat × Nat) (μ : Mm) (a0 : Nat) (a1 : Int32) (a2 : Int32) : Option (Int32 × Mm) :=
  bd (rf K μ a0 3 4) fun b1 => bd (f_X5_whyNotNewLabel K μ b1 a1 a2) fun x3 => bd (f_X7_refuse x3) fun q4 => bd (f_X7_save K μ a0) fun μ6 => bd (rf K μ6 a0 3 4) fun b7 => bd (f_X5_newLabel K μ6 b7 a1 a2) fun q8 => lt1 q8.1 fun x10 => lt1 q8.2 fun μ9 => some (x10, μ9)
set_option maxRecDepth 100000 in
set_option maxHeartbeats 4000000 in
theorem t_X7_addLabel {l : Launch} {Z : ZZ} {X : XX} (μ : Mm) (a0 : Nat) (a1 : Int32) (a2 : Int32) (r : Int32) (μ' : Mm) (k0 : (zk Z a0).1 = 5) (h : f_X7_addLabel (zk Z) μ a0 a1 a2 = some (r, μ')) (C : Cx l Z false X cX7_addLabel RX7 3 (some .int)) (E : Ex Z X 4 0 0 (some (.int r)) Z μ') : G Z X 3 0 0 0 [(0, .ref (za Z a0)), (1, .int a1), (2, .int a2)] [] μ := by
  unfold f_X7_addLabel at h
  refine g_aload_n C (i := 0) 0 rfl rfl (dk kX7_addLabel 0 rfl) ?_
  obtain ⟨b1, eb1, h⟩ := bd_inv h
  obtain ⟨rb1, kb1⟩ := rf_inv eb1
  refine gR_5_3 C k0 (C.w wd_1_190) rb1 (dk kX7_addLabel 1 rfl) ?_
  refine g_iload_n C (i := 1) 1 rfl rfl (dk kX7_addLabel 2 rfl) ?_
  refine g_iload_n C (i := 2) 2 rfl rfl (dk kX7_addLabel 3 rfl) ?_
  obtain ⟨x3, eq2, h⟩ := bd_inv h
  refine g_callV C E.2 (rest := []) 2 (ct_X5_whyNotNewLabel kb1 eq2) wd_2_161 mm_X5_whyNotNewLabel ⟨rfl, by decide, by decide, by decide⟩ rfl (by decide) kb1 (by decide) rfl rfl (Nat.le_of_ble_eq_true rfl) (by decide) (dk kX7_addLabel 4 rfl) ?_
  obtain ⟨q4, eq4, h⟩ := bd_inv h
  refine g_callS C E.2 (rest := []) 1 (ct_X7_refuse  eq4) wd_1_224 mm_X7_refuse ⟨by decide, by decide, by decide⟩ rfl (by decide) rfl (Nat.le_of_ble_eq_true rfl) (by decide) (dk kX7_addLabel 5 rfl) ?_
  refine g_aload_n C (i := 0) 0 rfl rfl (dk kX7_addLabel 6 rfl) ?_
  obtain ⟨μ6, eq5, h⟩ := bd_inv h
  refine g_callV C E.2 (rest := []) 0 (ct_X7_save k0 eq5) wd_2_87 mm_X7_save ⟨rfl, by decide, by decide, by decide⟩ rfl (by decide) k0 (by decide) rfl rfl (Nat.le_of_ble_eq_true rfl) (by decide) (dk kX7_addLabel 7 rfl) ?_
  refine g_aload_n C (i := 0) 0 rfl rfl (dk kX7_addLabel 8 rfl) ?_
  obtain ⟨b7, eb7, h⟩ := bd_inv h
  obtain ⟨rb7, kb7⟩ := rf_inv eb7
  refine gR_5_3 C k0 (C.w wd_1_190) rb7 (dk kX7_addLabel 9 rfl) ?_
  refine g_iload_n C (i := 1) 1 rfl rfl (dk kX7_addLabel 10 rfl) ?_
  refine g_iload_n C (i := 2) 2 rfl rfl (dk kX7_addLabel 11 rfl) ?_
  obtain ⟨q8, eq8, h⟩ := bd_inv h
  obtain ⟨x10, ex10, h⟩ := lt_inv h
  obtain ⟨μ9, eμ9, h⟩ := lt_inv h
  rw [show q8 = (x10, μ9) from by rw [ex10, eμ9]] at eq8
  refine g_callV C E.2 (rest := []) 2 (ct_X5_newLabel kb7 eq8) wd_2_165 mm_X5_newLabel ⟨rfl, by decide, by decide, by decide⟩ rfl (by decide) kb7 (by decide) rfl rfl (Nat.le_of_ble_eq_true rfl) (by decide) (dk kX7_addLabel 12 rfl) ?_
  obtain ⟨h8, h9⟩ := Prod.mk.inj (Option.some.inj h)
  subst h8
  subst h9
  exact g_iret C E rfl rfl (Nat.le_refl 0) (Nat.le_refl 0) (dk kX7_addLabel 13 rfl)
theorem ct_X7_addLabel {l : Launch} {Z : ZZ} {μ : Mm} {a0 : Nat} {a1 : Int32} {a2 : Int32} {r : Int32} {μ' : Mm} (k0 : (zk Z a0).1 = 5) (h : f_X7_addLabel (zk Z) μ a0 a1 a2 = some (r, μ')) : CtM l Z false yX7_addLabel cX7_addLabel 3 (some .int) 4 0 0 [.ref (za Z a0), .int a1, .int a2] μ (some (.int r)) Z μ' := ct_of rfl rfl (Nat.le_of_ble_eq_true rfl) (fun X C E => t_X7_addLabel μ a0 a1 a2 r μ' k0 h C E)

def qX7_begin : List (Nat × Instr × Nat) := [(0, .aload_n 0, 1), (1, .getfield 28, 3), (4, .iload_n 1, 1), (5, .invokevirtual 32, 3), (8, .invokestatic 36, 3), (11, .aload_n 0, 1), (12, .invokevirtual 40, 3), (15, .aload_n 0, 1), (16, .getfield 28, 3), (19, .iload_n 1, 1), (20, .invokevirtual 43, 3), (23, .ireturn, 1)]
theorem kX7_begin : ∀ q ∈ qX7_begin, decode cX7_begin q.1 = .ok q.2 := by decide +kernel
def f_X7_begin (K : Nat → Nat × Nat) (μ : Mm) (a0 : Nat) (a1 : Int32) : Option (Int32 × Mm) :=
  bd (rf K μ a0 3 4) fun b1 => bd (f_X5_whyNotNewHead b1 a1) fun x3 => bd (f_X7_refuse x3) fun q4 => bd (f_X7_save K μ a0) fun μ6 => bd (rf K μ6 a0 3 4) fun b7 => bd (f_X5_newHead K μ6 b7 a1) fun q8 => lt1 q8.1 fun x10 => lt1 q8.2 fun μ9 => some (x10, μ9)
set_option maxRecDepth 100000 in
set_option maxHeartbeats 4000000 in
theorem t_X7_begin {l : Launch} {Z : ZZ} {X : XX} (μ : Mm) (a0 : Nat) (a1 : Int32) (r : Int32) (μ' : Mm) (k0 : (zk Z a0).1 = 5) (h : f_X7_begin (zk Z) μ a0 a1 = some (r, μ')) (C : Cx l Z false X cX7_begin RX7 2 (some .int)) (E : Ex Z X 4 0 0 (some (.int r)) Z μ') : G Z X 2 0 0 0 [(0, .ref (za Z a0)), (1, .int a1)] [] μ := by
  unfold f_X7_begin at h
  refine g_aload_n C (i := 0) 0 rfl rfl (dk kX7_begin 0 rfl) ?_
  obtain ⟨b1, eb1, h⟩ := bd_inv h
  obtain ⟨rb1, kb1⟩ := rf_inv eb1
  refine gR_5_3 C k0 (C.w wd_1_190) rb1 (dk kX7_begin 1 rfl) ?_
  refine g_iload_n C (i := 1) 1 rfl rfl (dk kX7_begin 2 rfl) ?_
  obtain ⟨x3, eq2, h⟩ := bd_inv h
  refine g_callV C E.2 (rest := []) 1 (ct_X5_whyNotNewHead kb1 eq2) wd_1_220 mm_X5_whyNotNewHead ⟨rfl, by decide, by decide, by decide⟩ rfl (by decide) kb1 (by decide) rfl rfl (Nat.le_of_ble_eq_true rfl) (by decide) (dk kX7_begin 3 rfl) ?_
  obtain ⟨q4, eq4, h⟩ := bd_inv h
  refine g_callS C E.2 (rest := []) 1 (ct_X7_refuse  eq4) wd_1_224 mm_X7_refuse ⟨by decide, by decide, by decide⟩ rfl (by decide) rfl (Nat.le_of_ble_eq_true rfl) (by decide) (dk kX7_begin 4 rfl) ?_
  refine g_aload_n C (i := 0) 0 rfl rfl (dk kX7_begin 5 rfl) ?_
  obtain ⟨μ6, eq5, h⟩ := bd_inv h
  refine g_callV C E.2 (rest := []) 0 (ct_X7_save k0 eq5) wd_2_87 mm_X7_save ⟨rfl, by decide, by decide, by decide⟩ rfl (by decide) k0 (by decide) rfl rfl (Nat.le_of_ble_eq_true rfl) (by decide) (dk kX7_begin 6 rfl) ?_
  refine g_aload_n C (i := 0) 0 rfl rfl (dk kX7_begin 7 rfl) ?_
  obtain ⟨b7, eb7, h⟩ := bd_inv h
  obtain ⟨rb7, kb7⟩ := rf_inv eb7
  refine gR_5_3 C k0 (C.w wd_1_190) rb7 (dk kX7_begin 8 rfl) ?_
  refine g_iload_n C (i := 1) 1 rfl rfl (dk kX7_begin 9 rfl) ?_
  obtain ⟨q8, eq8, h⟩ := bd_inv h
  obtain ⟨x10, ex10, h⟩ := lt_inv h
  obtain ⟨μ9, eμ9, h⟩ := lt_inv h
  rw [show q8 = (x10, μ9) from by rw [ex10, eμ9]] at eq8
  refine g_callV C E.2 (rest := []) 1 (ct_X5_newHead kb7 eq8) wd_2_109 mm_X5_newHead ⟨rfl, by decide, by decide, by decide⟩ rfl (by decide) kb7 (by decide) rfl rfl (Nat.le_of_ble_eq_true rfl) (by decide) (dk kX7_begin 10 rfl) ?_
  obtain ⟨h8, h9⟩ := Prod.mk.inj (Option.some.inj h)
  subst h8
  subst h9
  exact g_iret C E rfl rfl (Nat.le_refl 0) (Nat.le_refl 0) (dk kX7_begin 11 rfl)
theorem ct_X7_begin {l : Launch} {Z : ZZ} {μ : Mm} {a0 : Nat} {a1 : Int32} {r : Int32} {μ' : Mm} (k0 : (zk Z a0).1 = 5) (h : f_X7_begin (zk Z) μ a0 a1 = some (r, μ')) : CtM l Z false yX7_begin cX7_begin 2 (some .int) 4 0 0 [.ref (za Z a0), .int a1] μ (some (.int r)) Z μ' := ct_of rfl rfl (Nat.le_of_ble_eq_true rfl) (fun X C E => t_X7_begin μ a0 a1 r μ' k0 h C E)

def qX7_cool : List (Nat × Instr × Nat) := [(0, .aload_n 0, 1), (1, .getfield 28, 3), (4, .iload_n 1, 1), (5, .invokevirtual 72, 3), (8, .invokestatic 36, 3), (11, .aload_n 0, 1), (12, .invokevirtual 40, 3), (15, .aload_n 0, 1), (16, .getfield 28, 3), (19, .iload_n 1, 1), (20, .invokevirtual 75, 3), (23, .ireturn, 1)]
theorem kX7_cool : ∀ q ∈ qX7_cool, decode cX7_cool q.1 = .ok q.2 := by decide +kernel
def f_X7_cool (K : Nat → Nat × Nat) (μ : Mm) (a0 : Nat) (a1 : Int32) : Option (Int32 × Mm) :=
  bd (rf K μ a0 3 4) fun b1 => bd (f_X5_whyNotPassLines b1 a1) fun x3 => bd (f_X7_refuse x3) fun q4 => bd (f_X7_save K μ a0) fun μ6 => bd (rf K μ6 a0 3 4) fun b7 => bd (f_X5_passLines K μ6 b7 a1) fun q8 => lt1 q8.1 fun x10 => lt1 q8.2 fun μ9 => some (x10, μ9)
set_option maxRecDepth 100000 in
set_option maxHeartbeats 4000000 in
theorem t_X7_cool {l : Launch} {Z : ZZ} {X : XX} (μ : Mm) (a0 : Nat) (a1 : Int32) (r : Int32) (μ' : Mm) (k0 : (zk Z a0).1 = 5) (h : f_X7_cool (zk Z) μ a0 a1 = some (r, μ')) (C : Cx l Z false X cX7_cool RX7 2 (some .int)) (E : Ex Z X 4 0 0 (some (.int r)) Z μ') : G Z X 2 0 0 0 [(0, .ref (za Z a0)), (1, .int a1)] [] μ := by
  unfold f_X7_cool at h
  refine g_aload_n C (i := 0) 0 rfl rfl (dk kX7_cool 0 rfl) ?_
  obtain ⟨b1, eb1, h⟩ := bd_inv h
  obtain ⟨rb1, kb1⟩ := rf_inv eb1
  refine gR_5_3 C k0 (C.w wd_1_190) rb1 (dk kX7_cool 1 rfl) ?_
  refine g_iload_n C (i := 1) 1 rfl rfl (dk kX7_cool 2 rfl) ?_
  obtain ⟨x3, eq2, h⟩ := bd_inv h
  refine g_callV C E.2 (rest := []) 1 (ct_X5_whyNotPassLines kb1 eq2) wd_2_222 mm_X5_whyNotPassLines ⟨rfl, by decide, by decide, by decide⟩ rfl (by decide) kb1 (by decide) rfl rfl (Nat.le_of_ble_eq_true rfl) (by decide) (dk kX7_cool 3 rfl) ?_
  obtain ⟨q4, eq4, h⟩ := bd_inv h
  refine g_callS C E.2 (rest := []) 1 (ct_X7_refuse  eq4) wd_1_224 mm_X7_refuse ⟨by decide, by decide, by decide⟩ rfl (by decide) rfl (Nat.le_of_ble_eq_true rfl) (by decide) (dk kX7_cool 4 rfl) ?_
  refine g_aload_n C (i := 0) 0 rfl rfl (dk kX7_cool 5 rfl) ?_
  obtain ⟨μ6, eq5, h⟩ := bd_inv h
  refine g_callV C E.2 (rest := []) 0 (ct_X7_save k0 eq5) wd_2_87 mm_X7_save ⟨rfl, by decide, by decide, by decide⟩ rfl (by decide) k0 (by decide) rfl rfl (Nat.le_of_ble_eq_true rfl) (by decide) (dk kX7_cool 6 rfl) ?_
  refine g_aload_n C (i := 0) 0 rfl rfl (dk kX7_cool 7 rfl) ?_
  obtain ⟨b7, eb7, h⟩ := bd_inv h
  obtain ⟨rb7, kb7⟩ := rf_inv eb7
  refine gR_5_3 C k0 (C.w wd_1_190) rb7 (dk kX7_cool 8 rfl) ?_
  refine g_iload_n C (i := 1) 1 rfl rfl (dk kX7_cool 9 rfl) ?_
  obtain ⟨q8, eq8, h⟩ := bd_inv h
  obtain ⟨x10, ex10, h⟩ := lt_inv h
  obtain ⟨μ9, eμ9, h⟩ := lt_inv h
  rw [show q8 = (x10, μ9) from by rw [ex10, eμ9]] at eq8
  refine g_callV C E.2 (rest := []) 1 (ct_X5_passLines kb7 eq8) wd_2_226 mm_X5_passLines ⟨rfl, by decide, by decide, by decide⟩ rfl (by decide) kb7 (by decide) rfl rfl (Nat.le_of_ble_eq_true rfl) (by decide) (dk kX7_cool 10 rfl) ?_
  obtain ⟨h8, h9⟩ := Prod.mk.inj (Option.some.inj h)
  subst h8
  subst h9
  exact g_iret C E rfl rfl (Nat.le_refl 0) (Nat.le_refl 0) (dk kX7_cool 11 rfl)
theorem ct_X7_cool {l : Launch} {Z : ZZ} {μ : Mm} {a0 : Nat} {a1 : Int32} {r : Int32} {μ' : Mm} (k0 : (zk Z a0).1 = 5) (h : f_X7_cool (zk Z) μ a0 a1 = some (r, μ')) : CtM l Z false yX7_cool cX7_cool 2 (some .int) 4 0 0 [.ref (za Z a0), .int a1] μ (some (.int r)) Z μ' := ct_of rfl rfl (Nat.le_of_ble_eq_true rfl) (fun X C E => t_X7_cool μ a0 a1 r μ' k0 h C E)

def qX7_customer : List (Nat × Instr × Nat) := [(0, .aload_n 0, 1), (1, .getfield 28, 3), (4, .iload_n 1, 1), (5, .iload_n 2, 1), (6, .invokevirtual 131, 3), (9, .invokestatic 36, 3), (12, .aload_n 0, 1), (13, .getfield 28, 3), (16, .getfield 134, 3), (19, .iload_n 1, 1), (20, .aaload, 1), (21, .iload_n 2, 1), (22, .invokevirtual 138, 3), (25, .ireturn, 1)]
theorem kX7_customer : ∀ q ∈ qX7_customer, decode cX7_customer q.1 = .ok q.2 := by decide +kernel
def f_X7_customer (K : Nat → Nat × Nat) (μ : Mm) (a0 : Nat) (a1 : Int32) (a2 : Int32) : Option (Int32) :=
  bd (rf K μ a0 3 4) fun b1 => bd (f_X5_whyNotCustomerValue K μ b1 a1 a2) fun x3 => bd (f_X7_refuse x3) fun q4 => bd (rf K μ a0 3 4) fun b5 => bd (rf K μ b5 5 9) fun b6 => gd (inb a1 (K b6).2) <| bd (rf K μ b6 (ix a1) 1) fun b8 => bd (f_X2_value K μ b8 a2) fun x10 => some x10
set_option maxRecDepth 100000 in
set_option maxHeartbeats 4000000 in
theorem t_X7_customer {l : Launch} {Z : ZZ} {X : XX} (μ : Mm) (a0 : Nat) (a1 : Int32) (a2 : Int32) (r : Int32) (k0 : (zk Z a0).1 = 5) (h : f_X7_customer (zk Z) μ a0 a1 a2 = some r) (C : Cx l Z false X cX7_customer RX7 3 (some .int)) (E : Ex Z X 2 0 0 (some (.int r)) Z μ) : G Z X 3 0 0 0 [(0, .ref (za Z a0)), (1, .int a1), (2, .int a2)] [] μ := by
  unfold f_X7_customer at h
  refine g_aload_n C (i := 0) 0 rfl rfl (dk kX7_customer 0 rfl) ?_
  obtain ⟨b1, eb1, h⟩ := bd_inv h
  obtain ⟨rb1, kb1⟩ := rf_inv eb1
  refine gR_5_3 C k0 (C.w wd_1_190) rb1 (dk kX7_customer 1 rfl) ?_
  refine g_iload_n C (i := 1) 1 rfl rfl (dk kX7_customer 2 rfl) ?_
  refine g_iload_n C (i := 2) 2 rfl rfl (dk kX7_customer 3 rfl) ?_
  obtain ⟨x3, eq2, h⟩ := bd_inv h
  refine g_callV C E.2 (rest := []) 2 (ct_X5_whyNotCustomerValue kb1 eq2) wd_4_36 mm_X5_whyNotCustomerValue ⟨rfl, by decide, by decide, by decide⟩ rfl (by decide) kb1 (by decide) rfl rfl (Nat.le_of_ble_eq_true rfl) (by decide) (dk kX7_customer 4 rfl) ?_
  obtain ⟨q4, eq4, h⟩ := bd_inv h
  refine g_callS C E.2 (rest := []) 1 (ct_X7_refuse  eq4) wd_1_224 mm_X7_refuse ⟨by decide, by decide, by decide⟩ rfl (by decide) rfl (Nat.le_of_ble_eq_true rfl) (by decide) (dk kX7_customer 5 rfl) ?_
  refine g_aload_n C (i := 0) 0 rfl rfl (dk kX7_customer 6 rfl) ?_
  obtain ⟨b5, eb5, h⟩ := bd_inv h
  obtain ⟨rb5, kb5⟩ := rf_inv eb5
  refine gR_5_3 C k0 (C.w wd_1_190) rb5 (dk kX7_customer 7 rfl) ?_
  obtain ⟨b6, eb6, h⟩ := bd_inv h
  obtain ⟨rb6, kb6⟩ := rf_inv eb6
  refine gRN_4_5 C kb5 (nf_24 C) rb6 (dk kX7_customer 8 rfl) ?_
  refine g_iload_n C (i := 1) 1 rfl rfl (dk kX7_customer 9 rfl) ?_
  obtain ⟨c7, h⟩ := gd_inv h
  obtain ⟨b8, eb8, h⟩ := bd_inv h
  obtain ⟨rb8, kb8⟩ := rf_inv eb8
  refine gA_9 C kb6 c7 rb8 (dk kX7_customer 10 rfl) ?_
  refine g_iload_n C (i := 2) 2 rfl rfl (dk kX7_customer 11 rfl) ?_
  obtain ⟨x10, eq9, h⟩ := bd_inv h
  refine g_callV C E.2 (rest := []) 1 (ct_X2_value kb8 eq9) wd_4_40 mm_X2_value ⟨rfl, by decide, by decide, by decide⟩ rfl (by decide) kb8 (by decide) rfl rfl (Nat.le_of_ble_eq_true rfl) (by decide) (dk kX7_customer 12 rfl) ?_
  have h9 := Option.some.inj h
  subst h9
  exact g_iret C E rfl rfl (Nat.le_refl 0) (Nat.le_refl 0) (dk kX7_customer 13 rfl)
theorem ct_X7_customer {l : Launch} {Z : ZZ} {μ : Mm} {a0 : Nat} {a1 : Int32} {a2 : Int32} {r : Int32} (k0 : (zk Z a0).1 = 5) (h : f_X7_customer (zk Z) μ a0 a1 a2 = some r) : CtM l Z false yX7_customer cX7_customer 3 (some .int) 2 0 0 [.ref (za Z a0), .int a1, .int a2] μ (some (.int r)) Z μ := ct_of rfl rfl (Nat.le_of_ble_eq_true rfl) (fun X C E => t_X7_customer μ a0 a1 a2 r k0 h C E)

def qX7_dot : List (Nat × Instr × Nat) := [(0, .aload_n 0, 1), (1, .getfield 28, 3), (4, .iload_n 1, 1), (5, .iload_n 2, 1), (6, .invokevirtual 109, 3), (9, .invokestatic 36, 3), (12, .aload_n 0, 1), (13, .getfield 28, 3), (16, .iload_n 1, 1), (17, .iload_n 2, 1), (18, .invokevirtual 112, 3), (21, .ireturn, 1)]
theorem kX7_dot : ∀ q ∈ qX7_dot, decode cX7_dot q.1 = .ok q.2 := by decide +kernel
def f_X7_dot (K : Nat → Nat × Nat) (μ : Mm) (a0 : Nat) (a1 : Int32) (a2 : Int32) : Option (Int32) :=
  bd (rf K μ a0 3 4) fun b1 => bd (f_X5_whyNotDotValue K μ b1 a1 a2) fun x3 => bd (f_X7_refuse x3) fun q4 => bd (rf K μ a0 3 4) fun b5 => bd (f_X5_dotValue K μ b5 a1 a2) fun x7 => some x7
set_option maxRecDepth 100000 in
set_option maxHeartbeats 4000000 in
theorem t_X7_dot {l : Launch} {Z : ZZ} {X : XX} (μ : Mm) (a0 : Nat) (a1 : Int32) (a2 : Int32) (r : Int32) (k0 : (zk Z a0).1 = 5) (h : f_X7_dot (zk Z) μ a0 a1 a2 = some r) (C : Cx l Z false X cX7_dot RX7 3 (some .int)) (E : Ex Z X 3 0 0 (some (.int r)) Z μ) : G Z X 3 0 0 0 [(0, .ref (za Z a0)), (1, .int a1), (2, .int a2)] [] μ := by
  unfold f_X7_dot at h
  refine g_aload_n C (i := 0) 0 rfl rfl (dk kX7_dot 0 rfl) ?_
  obtain ⟨b1, eb1, h⟩ := bd_inv h
  obtain ⟨rb1, kb1⟩ := rf_inv eb1
  refine gR_5_3 C k0 (C.w wd_1_190) rb1 (dk kX7_dot 1 rfl) ?_
  refine g_iload_n C (i := 1) 1 rfl rfl (dk kX7_dot 2 rfl) ?_
  refine g_iload_n C (i := 2) 2 rfl rfl (dk kX7_dot 3 rfl) ?_
  obtain ⟨x3, eq2, h⟩ := bd_inv h
  refine g_callV C E.2 (rest := []) 2 (ct_X5_whyNotDotValue kb1 eq2) wd_3_202 mm_X5_whyNotDotValue ⟨rfl, by decide, by decide, by decide⟩ rfl (by decide) kb1 (by decide) rfl rfl (Nat.le_of_ble_eq_true rfl) (by decide) (dk kX7_dot 4 rfl) ?_
  obtain ⟨q4, eq4, h⟩ := bd_inv h
  refine g_callS C E.2 (rest := []) 1 (ct_X7_refuse  eq4) wd_1_224 mm_X7_refuse ⟨by decide, by decide, by decide⟩ rfl (by decide) rfl (Nat.le_of_ble_eq_true rfl) (by decide) (dk kX7_dot 5 rfl) ?_
  refine g_aload_n C (i := 0) 0 rfl rfl (dk kX7_dot 6 rfl) ?_
  obtain ⟨b5, eb5, h⟩ := bd_inv h
  obtain ⟨rb5, kb5⟩ := rf_inv eb5
  refine gR_5_3 C k0 (C.w wd_1_190) rb5 (dk kX7_dot 7 rfl) ?_
  refine g_iload_n C (i := 1) 1 rfl rfl (dk kX7_dot 8 rfl) ?_
  refine g_iload_n C (i := 2) 2 rfl rfl (dk kX7_dot 9 rfl) ?_
  obtain ⟨x7, eq6, h⟩ := bd_inv h
  refine g_callV C E.2 (rest := []) 2 (ct_X5_dotValue kb5 eq6) wd_3_206 mm_X5_dotValue ⟨rfl, by decide, by decide, by decide⟩ rfl (by decide) kb5 (by decide) rfl rfl (Nat.le_of_ble_eq_true rfl) (by decide) (dk kX7_dot 10 rfl) ?_
  have h9 := Option.some.inj h
  subst h9
  exact g_iret C E rfl rfl (Nat.le_refl 0) (Nat.le_refl 0) (dk kX7_dot 11 rfl)
theorem ct_X7_dot {l : Launch} {Z : ZZ} {μ : Mm} {a0 : Nat} {a1 : Int32} {a2 : Int32} {r : Int32} (k0 : (zk Z a0).1 = 5) (h : f_X7_dot (zk Z) μ a0 a1 a2 = some r) : CtM l Z false yX7_dot cX7_dot 3 (some .int) 3 0 0 [.ref (za Z a0), .int a1, .int a2] μ (some (.int r)) Z μ := ct_of rfl rfl (Nat.le_of_ble_eq_true rfl) (fun X C E => t_X7_dot μ a0 a1 a2 r k0 h C E)

def qX7_endRent : List (Nat × Instr × Nat) := [(0, .aload_n 0, 1), (1, .getfield 28, 3), (4, .iload_n 1, 1), (5, .invokevirtual 91, 3), (8, .invokestatic 36, 3), (11, .aload_n 0, 1), (12, .invokevirtual 40, 3), (15, .aload_n 0, 1), (16, .getfield 28, 3), (19, .iload_n 1, 1), (20, .invokevirtual 94, 3), (23, .ireturn, 1)]
theorem kX7_endRent : ∀ q ∈ qX7_endRent, decode cX7_endRent q.1 = .ok q.2 := by decide +kernel
def f_X7_endRent (K : Nat → Nat × Nat) (μ : Mm) (a0 : Nat) (a1 : Int32) : Option (Int32 × Mm) :=
  bd (rf K μ a0 3 4) fun b1 => bd (f_X5_whyNotEndLet K μ b1 a1) fun x3 => bd (f_X7_refuse x3) fun q4 => bd (f_X7_save K μ a0) fun μ6 => bd (rf K μ6 a0 3 4) fun b7 => bd (f_X5_endLet K μ6 b7 a1) fun q8 => lt1 q8.1 fun x10 => lt1 q8.2 fun μ9 => some (x10, μ9)
set_option maxRecDepth 100000 in
set_option maxHeartbeats 4000000 in
theorem t_X7_endRent {l : Launch} {Z : ZZ} {X : XX} (μ : Mm) (a0 : Nat) (a1 : Int32) (r : Int32) (μ' : Mm) (k0 : (zk Z a0).1 = 5) (h : f_X7_endRent (zk Z) μ a0 a1 = some (r, μ')) (C : Cx l Z false X cX7_endRent RX7 2 (some .int)) (E : Ex Z X 4 0 0 (some (.int r)) Z μ') : G Z X 2 0 0 0 [(0, .ref (za Z a0)), (1, .int a1)] [] μ := by
  unfold f_X7_endRent at h
  refine g_aload_n C (i := 0) 0 rfl rfl (dk kX7_endRent 0 rfl) ?_
  obtain ⟨b1, eb1, h⟩ := bd_inv h
  obtain ⟨rb1, kb1⟩ := rf_inv eb1
  refine gR_5_3 C k0 (C.w wd_1_190) rb1 (dk kX7_endRent 1 rfl) ?_
  refine g_iload_n C (i := 1) 1 rfl rfl (dk kX7_endRent 2 rfl) ?_
  obtain ⟨x3, eq2, h⟩ := bd_inv h
  refine g_callV C E.2 (rest := []) 1 (ct_X5_whyNotEndLet kb1 eq2) wd_3_23 mm_X5_whyNotEndLet ⟨rfl, by decide, by decide, by decide⟩ rfl (by decide) kb1 (by decide) rfl rfl (Nat.le_of_ble_eq_true rfl) (by decide) (dk kX7_endRent 3 rfl) ?_
  obtain ⟨q4, eq4, h⟩ := bd_inv h
  refine g_callS C E.2 (rest := []) 1 (ct_X7_refuse  eq4) wd_1_224 mm_X7_refuse ⟨by decide, by decide, by decide⟩ rfl (by decide) rfl (Nat.le_of_ble_eq_true rfl) (by decide) (dk kX7_endRent 4 rfl) ?_
  refine g_aload_n C (i := 0) 0 rfl rfl (dk kX7_endRent 5 rfl) ?_
  obtain ⟨μ6, eq5, h⟩ := bd_inv h
  refine g_callV C E.2 (rest := []) 0 (ct_X7_save k0 eq5) wd_2_87 mm_X7_save ⟨rfl, by decide, by decide, by decide⟩ rfl (by decide) k0 (by decide) rfl rfl (Nat.le_of_ble_eq_true rfl) (by decide) (dk kX7_endRent 6 rfl) ?_
  refine g_aload_n C (i := 0) 0 rfl rfl (dk kX7_endRent 7 rfl) ?_
  obtain ⟨b7, eb7, h⟩ := bd_inv h
  obtain ⟨rb7, kb7⟩ := rf_inv eb7
  refine gR_5_3 C k0 (C.w wd_1_190) rb7 (dk kX7_endRent 8 rfl) ?_
  refine g_iload_n C (i := 1) 1 rfl rfl (dk kX7_endRent 9 rfl) ?_
  obtain ⟨q8, eq8, h⟩ := bd_inv h
  obtain ⟨x10, ex10, h⟩ := lt_inv h
  obtain ⟨μ9, eμ9, h⟩ := lt_inv h
  rw [show q8 = (x10, μ9) from by rw [ex10, eμ9]] at eq8
  refine g_callV C E.2 (rest := []) 1 (ct_X5_endLet kb7 eq8) wd_3_35 mm_X5_endLet ⟨rfl, by decide, by decide, by decide⟩ rfl (by decide) kb7 (by decide) rfl rfl (Nat.le_of_ble_eq_true rfl) (by decide) (dk kX7_endRent 10 rfl) ?_
  obtain ⟨h8, h9⟩ := Prod.mk.inj (Option.some.inj h)
  subst h8
  subst h9
  exact g_iret C E rfl rfl (Nat.le_refl 0) (Nat.le_refl 0) (dk kX7_endRent 11 rfl)
theorem ct_X7_endRent {l : Launch} {Z : ZZ} {μ : Mm} {a0 : Nat} {a1 : Int32} {r : Int32} {μ' : Mm} (k0 : (zk Z a0).1 = 5) (h : f_X7_endRent (zk Z) μ a0 a1 = some (r, μ')) : CtM l Z false yX7_endRent cX7_endRent 2 (some .int) 4 0 0 [.ref (za Z a0), .int a1] μ (some (.int r)) Z μ' := ct_of rfl rfl (Nat.le_of_ble_eq_true rfl) (fun X C E => t_X7_endRent μ a0 a1 r μ' k0 h C E)

def qX7_label : List (Nat × Instr × Nat) := [(0, .aload_n 0, 1), (1, .getfield 28, 3), (4, .iload_n 1, 1), (5, .iload_n 2, 1), (6, .bipush 6, 2), (8, .invokevirtual 115, 3), (11, .invokestatic 36, 3), (14, .aload_n 0, 1), (15, .getfield 28, 3), (18, .getfield 118, 3), (21, .iload_n 1, 1), (22, .aaload, 1), (23, .iload_n 2, 1), (24, .invokevirtual 122, 3), (27, .ireturn, 1)]
theorem kX7_label : ∀ q ∈ qX7_label, decode cX7_label q.1 = .ok q.2 := by decide +kernel
def f_X7_label (K : Nat → Nat × Nat) (μ : Mm) (a0 : Nat) (a1 : Int32) (a2 : Int32) : Option (Int32) :=
  bd (rf K μ a0 3 4) fun b1 => bd (f_X5_whyNotLabelValue K μ b1 a1 a2 6) fun x3 => bd (f_X7_refuse x3) fun q4 => bd (rf K μ a0 3 4) fun b5 => bd (rf K μ b5 3 10) fun b6 => gd (inb a1 (K b6).2) <| bd (rf K μ b6 (ix a1) 3) fun b8 => bd (f_X4_value K μ b8 a2) fun x10 => some x10
set_option maxRecDepth 100000 in
set_option maxHeartbeats 4000000 in
theorem t_X7_label {l : Launch} {Z : ZZ} {X : XX} (μ : Mm) (a0 : Nat) (a1 : Int32) (a2 : Int32) (r : Int32) (k0 : (zk Z a0).1 = 5) (h : f_X7_label (zk Z) μ a0 a1 a2 = some r) (C : Cx l Z false X cX7_label RX7 3 (some .int)) (E : Ex Z X 3 0 0 (some (.int r)) Z μ) : G Z X 3 0 0 0 [(0, .ref (za Z a0)), (1, .int a1), (2, .int a2)] [] μ := by
  unfold f_X7_label at h
  refine g_aload_n C (i := 0) 0 rfl rfl (dk kX7_label 0 rfl) ?_
  obtain ⟨b1, eb1, h⟩ := bd_inv h
  obtain ⟨rb1, kb1⟩ := rf_inv eb1
  refine gR_5_3 C k0 (C.w wd_1_190) rb1 (dk kX7_label 1 rfl) ?_
  refine g_iload_n C (i := 1) 1 rfl rfl (dk kX7_label 2 rfl) ?_
  refine g_iload_n C (i := 2) 2 rfl rfl (dk kX7_label 3 rfl) ?_
  refine g_bipush C (v := 6) (by decide) (dk kX7_label 4 rfl) ?_
  obtain ⟨x3, eq2, h⟩ := bd_inv h
  refine g_callV C E.2 (rest := []) 3 (ct_X5_whyNotLabelValue kb1 eq2) wd_4_8 mm_X5_whyNotLabelValue ⟨rfl, by decide, by decide, by decide⟩ rfl (by decide) kb1 (by decide) rfl rfl (Nat.le_of_ble_eq_true rfl) (by decide) (dk kX7_label 5 rfl) ?_
  obtain ⟨q4, eq4, h⟩ := bd_inv h
  refine g_callS C E.2 (rest := []) 1 (ct_X7_refuse  eq4) wd_1_224 mm_X7_refuse ⟨by decide, by decide, by decide⟩ rfl (by decide) rfl (Nat.le_of_ble_eq_true rfl) (by decide) (dk kX7_label 6 rfl) ?_
  refine g_aload_n C (i := 0) 0 rfl rfl (dk kX7_label 7 rfl) ?_
  obtain ⟨b5, eb5, h⟩ := bd_inv h
  obtain ⟨rb5, kb5⟩ := rf_inv eb5
  refine gR_5_3 C k0 (C.w wd_1_190) rb5 (dk kX7_label 8 rfl) ?_
  obtain ⟨b6, eb6, h⟩ := bd_inv h
  obtain ⟨rb6, kb6⟩ := rf_inv eb6
  refine gRN_4_3 C kb5 (nf_23 C) rb6 (dk kX7_label 9 rfl) ?_
  refine g_iload_n C (i := 1) 1 rfl rfl (dk kX7_label 10 rfl) ?_
  obtain ⟨c7, h⟩ := gd_inv h
  obtain ⟨b8, eb8, h⟩ := bd_inv h
  obtain ⟨rb8, kb8⟩ := rf_inv eb8
  refine gA_10 C kb6 c7 rb8 (dk kX7_label 11 rfl) ?_
  refine g_iload_n C (i := 2) 2 rfl rfl (dk kX7_label 12 rfl) ?_
  obtain ⟨x10, eq9, h⟩ := bd_inv h
  refine g_callV C E.2 (rest := []) 1 (ct_X4_value kb8 eq9) wd_4_19 mm_X4_value ⟨rfl, by decide, by decide, by decide⟩ rfl (by decide) kb8 (by decide) rfl rfl (Nat.le_of_ble_eq_true rfl) (by decide) (dk kX7_label 13 rfl) ?_
  have h9 := Option.some.inj h
  subst h9
  exact g_iret C E rfl rfl (Nat.le_refl 0) (Nat.le_refl 0) (dk kX7_label 14 rfl)
theorem ct_X7_label {l : Launch} {Z : ZZ} {μ : Mm} {a0 : Nat} {a1 : Int32} {a2 : Int32} {r : Int32} (k0 : (zk Z a0).1 = 5) (h : f_X7_label (zk Z) μ a0 a1 a2 = some r) : CtM l Z false yX7_label cX7_label 3 (some .int) 3 0 0 [.ref (za Z a0), .int a1, .int a2] μ (some (.int r)) Z μ := ct_of rfl rfl (Nat.le_of_ble_eq_true rfl) (fun X C E => t_X7_label μ a0 a1 a2 r k0 h C E)

def qX7_mostWorn : List (Nat × Instr × Nat) := [(0, .aload_n 0, 1), (1, .getfield 28, 3), (4, .getfield 169, 3), (7, .invokevirtual 173, 3), (10, .ireturn, 1)]
theorem kX7_mostWorn : ∀ q ∈ qX7_mostWorn, decode cX7_mostWorn q.1 = .ok q.2 := by decide +kernel
def f_X7_mostWorn (K : Nat → Nat × Nat) (μ : Mm) (a0 : Nat) : Option (Int32) :=
  bd (rf K μ a0 3 4) fun b1 => bd (rf K μ b1 0 2) fun b2 => bd (f_X3_mostWornDot K μ b2) fun x4 => some x4
set_option maxRecDepth 100000 in
set_option maxHeartbeats 4000000 in
theorem t_X7_mostWorn {l : Launch} {Z : ZZ} {X : XX} (μ : Mm) (a0 : Nat) (r : Int32) (k0 : (zk Z a0).1 = 5) (h : f_X7_mostWorn (zk Z) μ a0 = some r) (C : Cx l Z false X cX7_mostWorn RX7 1 (some .int)) (E : Ex Z X 1 0 0 (some (.int r)) Z μ) : G Z X 1 0 0 0 [(0, .ref (za Z a0))] [] μ := by
  unfold f_X7_mostWorn at h
  refine g_aload_n C (i := 0) 0 rfl rfl (dk kX7_mostWorn 0 rfl) ?_
  obtain ⟨b1, eb1, h⟩ := bd_inv h
  obtain ⟨rb1, kb1⟩ := rf_inv eb1
  refine gR_5_3 C k0 (C.w wd_1_190) rb1 (dk kX7_mostWorn 1 rfl) ?_
  obtain ⟨b2, eb2, h⟩ := bd_inv h
  obtain ⟨rb2, kb2⟩ := rf_inv eb2
  refine gRN_4_0 C kb1 (nf_22 C) rb2 (dk kX7_mostWorn 2 rfl) ?_
  obtain ⟨x4, eq3, h⟩ := bd_inv h
  refine g_callV C E.2 (rest := []) 0 (ct_X3_mostWornDot kb2 eq3) wd_4_48 mm_X3_mostWornDot ⟨rfl, by decide, by decide, by decide⟩ rfl (by decide) kb2 (by decide) rfl rfl (Nat.le_of_ble_eq_true rfl) (by decide) (dk kX7_mostWorn 3 rfl) ?_
  have h9 := Option.some.inj h
  subst h9
  exact g_iret C E rfl rfl (Nat.le_refl 0) (Nat.le_refl 0) (dk kX7_mostWorn 4 rfl)
theorem ct_X7_mostWorn {l : Launch} {Z : ZZ} {μ : Mm} {a0 : Nat} {r : Int32} (k0 : (zk Z a0).1 = 5) (h : f_X7_mostWorn (zk Z) μ a0 = some r) : CtM l Z false yX7_mostWorn cX7_mostWorn 1 (some .int) 1 0 0 [.ref (za Z a0)] μ (some (.int r)) Z μ := ct_of rfl rfl (Nat.le_of_ble_eq_true rfl) (fun X C E => t_X7_mostWorn μ a0 r k0 h C E)

def qX7_print : List (Nat × Instr × Nat) := [(0, .aload_n 0, 1), (1, .getfield 28, 3), (4, .iload_n 1, 1), (5, .iload_n 2, 1), (6, .iload_n 3, 1), (7, .invokevirtual 97, 3), (10, .invokestatic 36, 3), (13, .aload_n 0, 1), (14, .invokevirtual 40, 3), (17, .aload_n 0, 1), (18, .getfield 28, 3), (21, .iload_n 1, 1), (22, .iload_n 2, 1), (23, .iload_n 3, 1), (24, .invokevirtual 100, 3), (27, .ireturn, 1)]
theorem kX7_print : ∀ q ∈ qX7_print, decode cX7_print q.1 = .ok q.2 := by decide +kernel
def f_X7_print (K : Nat → Nat × Nat) (μ : Mm) (a0 : Nat) (a1 : Int32) (a2 : Int32) (a3 : Int32) : Option (Int32 × Mm) :=
  bd (rf K μ a0 3 4) fun b1 => bd (f_X5_whyNotPrintAt K μ b1 a1 a2 a3) fun x3 => bd (f_X7_refuse x3) fun q4 => bd (f_X7_save K μ a0) fun μ6 => bd (rf K μ6 a0 3 4) fun b7 => bd (f_X5_printAt K μ6 b7 a1 a2 a3) fun q8 => lt1 q8.1 fun x10 => lt1 q8.2 fun μ9 => some (x10, μ9)
set_option maxRecDepth 100000 in
set_option maxHeartbeats 4000000 in
theorem t_X7_print {l : Launch} {Z : ZZ} {X : XX} (μ : Mm) (a0 : Nat) (a1 : Int32) (a2 : Int32) (a3 : Int32) (r : Int32) (μ' : Mm) (k0 : (zk Z a0).1 = 5) (h : f_X7_print (zk Z) μ a0 a1 a2 a3 = some (r, μ')) (C : Cx l Z false X cX7_print RX7 4 (some .int)) (E : Ex Z X 4 0 0 (some (.int r)) Z μ') : G Z X 4 0 0 0 [(0, .ref (za Z a0)), (1, .int a1), (2, .int a2), (3, .int a3)] [] μ := by
  unfold f_X7_print at h
  refine g_aload_n C (i := 0) 0 rfl rfl (dk kX7_print 0 rfl) ?_
  obtain ⟨b1, eb1, h⟩ := bd_inv h
  obtain ⟨rb1, kb1⟩ := rf_inv eb1
  refine gR_5_3 C k0 (C.w wd_1_190) rb1 (dk kX7_print 1 rfl) ?_
  refine g_iload_n C (i := 1) 1 rfl rfl (dk kX7_print 2 rfl) ?_
  refine g_iload_n C (i := 2) 2 rfl rfl (dk kX7_print 3 rfl) ?_
  refine g_iload_n C (i := 3) 3 rfl rfl (dk kX7_print 4 rfl) ?_
  obtain ⟨x3, eq2, h⟩ := bd_inv h
  refine g_callV C E.2 (rest := []) 3 (ct_X5_whyNotPrintAt kb1 eq2) wd_3_82 mm_X5_whyNotPrintAt ⟨rfl, by decide, by decide, by decide⟩ rfl (by decide) kb1 (by decide) rfl rfl (Nat.le_of_ble_eq_true rfl) (by decide) (dk kX7_print 5 rfl) ?_
  obtain ⟨q4, eq4, h⟩ := bd_inv h
  refine g_callS C E.2 (rest := []) 1 (ct_X7_refuse  eq4) wd_1_224 mm_X7_refuse ⟨by decide, by decide, by decide⟩ rfl (by decide) rfl (Nat.le_of_ble_eq_true rfl) (by decide) (dk kX7_print 6 rfl) ?_
  refine g_aload_n C (i := 0) 0 rfl rfl (dk kX7_print 7 rfl) ?_
  obtain ⟨μ6, eq5, h⟩ := bd_inv h
  refine g_callV C E.2 (rest := []) 0 (ct_X7_save k0 eq5) wd_2_87 mm_X7_save ⟨rfl, by decide, by decide, by decide⟩ rfl (by decide) k0 (by decide) rfl rfl (Nat.le_of_ble_eq_true rfl) (by decide) (dk kX7_print 8 rfl) ?_
  refine g_aload_n C (i := 0) 0 rfl rfl (dk kX7_print 9 rfl) ?_
  obtain ⟨b7, eb7, h⟩ := bd_inv h
  obtain ⟨rb7, kb7⟩ := rf_inv eb7
  refine gR_5_3 C k0 (C.w wd_1_190) rb7 (dk kX7_print 10 rfl) ?_
  refine g_iload_n C (i := 1) 1 rfl rfl (dk kX7_print 11 rfl) ?_
  refine g_iload_n C (i := 2) 2 rfl rfl (dk kX7_print 12 rfl) ?_
  refine g_iload_n C (i := 3) 3 rfl rfl (dk kX7_print 13 rfl) ?_
  obtain ⟨q8, eq8, h⟩ := bd_inv h
  obtain ⟨x10, ex10, h⟩ := lt_inv h
  obtain ⟨μ9, eμ9, h⟩ := lt_inv h
  rw [show q8 = (x10, μ9) from by rw [ex10, eμ9]] at eq8
  refine g_callV C E.2 (rest := []) 3 (ct_X5_printAt kb7 eq8) wd_3_104 mm_X5_printAt ⟨rfl, by decide, by decide, by decide⟩ rfl (by decide) kb7 (by decide) rfl rfl (Nat.le_of_ble_eq_true rfl) (by decide) (dk kX7_print 14 rfl) ?_
  obtain ⟨h8, h9⟩ := Prod.mk.inj (Option.some.inj h)
  subst h8
  subst h9
  exact g_iret C E rfl rfl (Nat.le_refl 0) (Nat.le_refl 0) (dk kX7_print 15 rfl)
theorem ct_X7_print {l : Launch} {Z : ZZ} {μ : Mm} {a0 : Nat} {a1 : Int32} {a2 : Int32} {a3 : Int32} {r : Int32} {μ' : Mm} (k0 : (zk Z a0).1 = 5) (h : f_X7_print (zk Z) μ a0 a1 a2 a3 = some (r, μ')) : CtM l Z false yX7_print cX7_print 4 (some .int) 4 0 0 [.ref (za Z a0), .int a1, .int a2, .int a3] μ (some (.int r)) Z μ' := ct_of rfl rfl (Nat.le_of_ble_eq_true rfl) (fun X C E => t_X7_print μ a0 a1 a2 a3 r μ' k0 h C E)

def qX7_printBest : List (Nat × Instr × Nat) := [(0, .aload_n 0, 1), (1, .getfield 28, 3), (4, .iload_n 1, 1), (5, .iload_n 2, 1), (6, .invokevirtual 103, 3), (9, .invokestatic 36, 3), (12, .aload_n 0, 1), (13, .invokevirtual 40, 3), (16, .aload_n 0, 1), (17, .getfield 28, 3), (20, .iload_n 1, 1), (21, .iload_n 2, 1), (22, .invokevirtual 106, 3), (25, .ireturn, 1)]
theorem kX7_printBest : ∀ q ∈ qX7_printBest, decode cX7_printBest q.1 = .ok q.2 := by decide +kernel
def f_X7_printBest (K : Nat → Nat × Nat) (μ : Mm) (a0 : Nat) (a1 : Int32) (a2 : Int32) : Option (Int32 × Mm) :=
  bd (rf K μ a0 3 4) fun b1 => bd (f_X5_whyNotPrintAtBest K μ b1 a1 a2) fun q2 => lt1 q2.1 fun x4 => lt1 q2.2 fun μ3 => bd (f_X7_refuse x4) fun q5 => bd (f_X7_save K μ3 a0) fun μ7 => bd (rf K μ7 a0 3 4) fun b8 => bd (f_X5_printAtBest K μ7 b8 a1 a2) fun q9 => lt1 q9.1 fun x11 => lt1 q9.2 fun μ10 => some (x11, μ10)
set_option maxRecDepth 100000 in
set_option maxHeartbeats 4000000 in
theorem t_X7_printBest {l : Launch} {Z : ZZ} {X : XX} (μ : Mm) (a0 : Nat) (a1 : Int32) (a2 : Int32) (r : Int32) (μ' : Mm) (k0 : (zk Z a0).1 = 5) (h : f_X7_printBest (zk Z) μ a0 a1 a2 = some (r, μ')) (C : Cx l Z false X cX7_printBest RX7 3 (some .int)) (E : Ex Z X 5 0 0 (some (.int r)) Z μ') : G Z X 3 0 0 0 [(0, .ref (za Z a0)), (1, .int a1), (2, .int a2)] [] μ := by
  unfold f_X7_printBest at h
  refine g_aload_n C (i := 0) 0 rfl rfl (dk kX7_printBest 0 rfl) ?_
  obtain ⟨b1, eb1, h⟩ := bd_inv h
  obtain ⟨rb1, kb1⟩ := rf_inv eb1
  refine gR_5_3 C k0 (C.w wd_1_190) rb1 (dk kX7_printBest 1 rfl) ?_
  refine g_iload_n C (i := 1) 1 rfl rfl (dk kX7_printBest 2 rfl) ?_
  refine g_iload_n C (i := 2) 2 rfl rfl (dk kX7_printBest 3 rfl) ?_
  obtain ⟨q2, eq2, h⟩ := bd_inv h
  obtain ⟨x4, ex4, h⟩ := lt_inv h
  obtain ⟨μ3, eμ3, h⟩ := lt_inv h
  rw [show q2 = (x4, μ3) from by rw [ex4, eμ3]] at eq2
  refine g_callV C E.2 (rest := []) 2 (ct_X5_whyNotPrintAtBest kb1 eq2) wd_3_143 mm_X5_whyNotPrintAtBest ⟨rfl, by decide, by decide, by decide⟩ rfl (by decide) kb1 (by decide) rfl rfl (Nat.le_of_ble_eq_true rfl) (by decide) (dk kX7_printBest 4 rfl) ?_
  obtain ⟨q5, eq5, h⟩ := bd_inv h
  refine g_callS C E.2 (rest := []) 1 (ct_X7_refuse  eq5) wd_1_224 mm_X7_refuse ⟨by decide, by decide, by decide⟩ rfl (by decide) rfl (Nat.le_of_ble_eq_true rfl) (by decide) (dk kX7_printBest 5 rfl) ?_
  refine g_aload_n C (i := 0) 0 rfl rfl (dk kX7_printBest 6 rfl) ?_
  obtain ⟨μ7, eq6, h⟩ := bd_inv h
  refine g_callV C E.2 (rest := []) 0 (ct_X7_save k0 eq6) wd_2_87 mm_X7_save ⟨rfl, by decide, by decide, by decide⟩ rfl (by decide) k0 (by decide) rfl rfl (Nat.le_of_ble_eq_true rfl) (by decide) (dk kX7_printBest 7 rfl) ?_
  refine g_aload_n C (i := 0) 0 rfl rfl (dk kX7_printBest 8 rfl) ?_
  obtain ⟨b8, eb8, h⟩ := bd_inv h
  obtain ⟨rb8, kb8⟩ := rf_inv eb8
  refine gR_5_3 C k0 (C.w wd_1_190) rb8 (dk kX7_printBest 9 rfl) ?_
  refine g_iload_n C (i := 1) 1 rfl rfl (dk kX7_printBest 10 rfl) ?_
  refine g_iload_n C (i := 2) 2 rfl rfl (dk kX7_printBest 11 rfl) ?_
  obtain ⟨q9, eq9, h⟩ := bd_inv h
  obtain ⟨x11, ex11, h⟩ := lt_inv h
  obtain ⟨μ10, eμ10, h⟩ := lt_inv h
  rw [show q9 = (x11, μ10) from by rw [ex11, eμ10]] at eq9
  refine g_callV C E.2 (rest := []) 2 (ct_X5_printAtBest kb8 eq9) wd_3_163 mm_X5_printAtBest ⟨rfl, by decide, by decide, by decide⟩ rfl (by decide) kb8 (by decide) rfl rfl (Nat.le_of_ble_eq_true rfl) (by decide) (dk kX7_printBest 12 rfl) ?_
  obtain ⟨h8, h9⟩ := Prod.mk.inj (Option.some.inj h)
  subst h8
  subst h9
  exact g_iret C E rfl rfl (Nat.le_refl 0) (Nat.le_refl 0) (dk kX7_printBest 13 rfl)
theorem ct_X7_printBest {l : Launch} {Z : ZZ} {μ : Mm} {a0 : Nat} {a1 : Int32} {a2 : Int32} {r : Int32} {μ' : Mm} (k0 : (zk Z a0).1 = 5) (h : f_X7_printBest (zk Z) μ a0 a1 a2 = some (r, μ')) : CtM l Z false yX7_printBest cX7_printBest 3 (some .int) 5 0 0 [.ref (za Z a0), .int a1, .int a2] μ (some (.int r)) Z μ' := ct_of rfl rfl (Nat.le_of_ble_eq_true rfl) (fun X C E => t_X7_printBest μ a0 a1 a2 r μ' k0 h C E)

def qX7_rent : List (Nat × Instr × Nat) := [(0, .aload_n 0, 1), (1, .getfield 28, 3), (4, .iload_n 1, 1), (5, .iload_n 2, 1), (6, .iload_n 3, 1), (7, .invokevirtual 85, 3), (10, .invokestatic 36, 3), (13, .aload_n 0, 1), (14, .invokevirtual 40, 3), (17, .aload_n 0, 1), (18, .getfield 28, 3), (21, .iload_n 1, 1), (22, .iload_n 2, 1), (23, .iload_n 3, 1), (24, .invokevirtual 88, 3), (27, .ireturn, 1)]
theorem kX7_rent : ∀ q ∈ qX7_rent, decode cX7_rent q.1 = .ok q.2 := by decide +kernel
def f_X7_rent (K : Nat → Nat × Nat) (μ : Mm) (a0 : Nat) (a1 : Int32) (a2 : Int32) (a3 : Int32) : Option (Int32 × Mm) :=
  bd (rf K μ a0 3 4) fun b1 => bd (f_X5_whyNotLet K μ b1 a1 a2 a3) fun x3 => bd (f_X7_refuse x3) fun q4 => bd (f_X7_save K μ a0) fun μ6 => bd (rf K μ6 a0 3 4) fun b7 => bd (f_X5_let K μ6 b7 a1 a2 a3) fun q8 => lt1 q8.1 fun x10 => lt1 q8.2 fun μ9 => some (x10, μ9)
set_option maxRecDepth 100000 in
set_option maxHeartbeats 4000000 in
theorem t_X7_rent {l : Launch} {Z : ZZ} {X : XX} (μ : Mm) (a0 : Nat) (a1 : Int32) (a2 : Int32) (a3 : Int32) (r : Int32) (μ' : Mm) (k0 : (zk Z a0).1 = 5) (h : f_X7_rent (zk Z) μ a0 a1 a2 a3 = some (r, μ')) (C : Cx l Z false X cX7_rent RX7 4 (some .int)) (E : Ex Z X 4 0 0 (some (.int r)) Z μ') : G Z X 4 0 0 0 [(0, .ref (za Z a0)), (1, .int a1), (2, .int a2), (3, .int a3)] [] μ := by
  unfold f_X7_rent at h
  refine g_aload_n C (i := 0) 0 rfl rfl (dk kX7_rent 0 rfl) ?_
  obtain ⟨b1, eb1, h⟩ := bd_inv h
  obtain ⟨rb1, kb1⟩ := rf_inv eb1
  refine gR_5_3 C k0 (C.w wd_1_190) rb1 (dk kX7_rent 1 rfl) ?_
  refine g_iload_n C (i := 1) 1 rfl rfl (dk kX7_rent 2 rfl) ?_
  refine g_iload_n C (i := 2) 2 rfl rfl (dk kX7_rent 3 rfl) ?_
  refine g_iload_n C (i := 3) 3 rfl rfl (dk kX7_rent 4 rfl) ?_
  obtain ⟨x3, eq2, h⟩ := bd_inv h
  refine g_callV C E.2 (rest := []) 3 (ct_X5_whyNotLet kb1 eq2) wd_3_46 mm_X5_whyNotLet ⟨rfl, by decide, by decide, by decide⟩ rfl (by decide) kb1 (by decide) rfl rfl (Nat.le_of_ble_eq_true rfl) (by decide) (dk kX7_rent 5 rfl) ?_
  obtain ⟨q4, eq4, h⟩ := bd_inv h
  refine g_callS C E.2 (rest := []) 1 (ct_X7_refuse  eq4) wd_1_224 mm_X7_refuse ⟨by decide, by decide, by decide⟩ rfl (by decide) rfl (Nat.le_of_ble_eq_true rfl) (by decide) (dk kX7_rent 6 rfl) ?_
  refine g_aload_n C (i := 0) 0 rfl rfl (dk kX7_rent 7 rfl) ?_
  obtain ⟨μ6, eq5, h⟩ := bd_inv h
  refine g_callV C E.2 (rest := []) 0 (ct_X7_save k0 eq5) wd_2_87 mm_X7_save ⟨rfl, by decide, by decide, by decide⟩ rfl (by decide) k0 (by decide) rfl rfl (Nat.le_of_ble_eq_true rfl) (by decide) (dk kX7_rent 8 rfl) ?_
  refine g_aload_n C (i := 0) 0 rfl rfl (dk kX7_rent 9 rfl) ?_
  obtain ⟨b7, eb7, h⟩ := bd_inv h
  obtain ⟨rb7, kb7⟩ := rf_inv eb7
  refine gR_5_3 C k0 (C.w wd_1_190) rb7 (dk kX7_rent 10 rfl) ?_
  refine g_iload_n C (i := 1) 1 rfl rfl (dk kX7_rent 11 rfl) ?_
  refine g_iload_n C (i := 2) 2 rfl rfl (dk kX7_rent 12 rfl) ?_
  refine g_iload_n C (i := 3) 3 rfl rfl (dk kX7_rent 13 rfl) ?_
  obtain ⟨q8, eq8, h⟩ := bd_inv h
  obtain ⟨x10, ex10, h⟩ := lt_inv h
  obtain ⟨μ9, eμ9, h⟩ := lt_inv h
  rw [show q8 = (x10, μ9) from by rw [ex10, eμ9]] at eq8
  refine g_callV C E.2 (rest := []) 3 (ct_X5_let kb7 eq8) wd_3_58 mm_X5_let ⟨rfl, by decide, by decide, by decide⟩ rfl (by decide) kb7 (by decide) rfl rfl (Nat.le_of_ble_eq_true rfl) (by decide) (dk kX7_rent 14 rfl) ?_
  obtain ⟨h8, h9⟩ := Prod.mk.inj (Option.some.inj h)
  subst h8
  subst h9
  exact g_iret C E rfl rfl (Nat.le_refl 0) (Nat.le_refl 0) (dk kX7_rent 15 rfl)
theorem ct_X7_rent {l : Launch} {Z : ZZ} {μ : Mm} {a0 : Nat} {a1 : Int32} {a2 : Int32} {a3 : Int32} {r : Int32} {μ' : Mm} (k0 : (zk Z a0).1 = 5) (h : f_X7_rent (zk Z) μ a0 a1 a2 a3 = some (r, μ')) : CtM l Z false yX7_rent cX7_rent 4 (some .int) 4 0 0 [.ref (za Z a0), .int a1, .int a2, .int a3] μ (some (.int r)) Z μ' := ct_of rfl rfl (Nat.le_of_ble_eq_true rfl) (fun X C E => t_X7_rent μ a0 a1 a2 a3 r μ' k0 h C E)

def qX7_replace : List (Nat × Instr × Nat) := [(0, .aload_n 0, 1), (1, .getfield 28, 3), (4, .iload_n 1, 1), (5, .invokevirtual 66, 3), (8, .invokestatic 36, 3), (11, .aload_n 0, 1), (12, .invokevirtual 40, 3), (15, .aload_n 0, 1), (16, .getfield 28, 3), (19, .iload_n 1, 1), (20, .invokevirtual 69, 3), (23, .ireturn, 1)]
theorem kX7_replace : ∀ q ∈ qX7_replace, decode cX7_replace q.1 = .ok q.2 := by decide +kernel
def f_X7_replace (K : Nat → Nat × Nat) (μ : Mm) (a0 : Nat) (a1 : Int32) : Option (Int32 × Mm) :=
  bd (rf K μ a0 3 4) fun b1 => bd (f_X5_whyNotNewDot K μ b1 a1) fun x3 => bd (f_X7_refuse x3) fun q4 => bd (f_X7_save K μ a0) fun μ6 => bd (rf K μ6 a0 3 4) fun b7 => bd (f_X5_newDot K μ6 b7 a1) fun q8 => lt1 q8.1 fun x10 => lt1 q8.2 fun μ9 => some (x10, μ9)
set_option maxRecDepth 100000 in
set_option maxHeartbeats 4000000 in
theorem t_X7_replace {l : Launch} {Z : ZZ} {X : XX} (μ : Mm) (a0 : Nat) (a1 : Int32) (r : Int32) (μ' : Mm) (k0 : (zk Z a0).1 = 5) (h : f_X7_replace (zk Z) μ a0 a1 = some (r, μ')) (C : Cx l Z false X cX7_replace RX7 2 (some .int)) (E : Ex Z X 4 0 0 (some (.int r)) Z μ') : G Z X 2 0 0 0 [(0, .ref (za Z a0)), (1, .int a1)] [] μ := by
  unfold f_X7_replace at h
  refine g_aload_n C (i := 0) 0 rfl rfl (dk kX7_replace 0 rfl) ?_
  obtain ⟨b1, eb1, h⟩ := bd_inv h
  obtain ⟨rb1, kb1⟩ := rf_inv eb1
  refine gR_5_3 C k0 (C.w wd_1_190) rb1 (dk kX7_replace 1 rfl) ?_
  refine g_iload_n C (i := 1) 1 rfl rfl (dk kX7_replace 2 rfl) ?_
  obtain ⟨x3, eq2, h⟩ := bd_inv h
  refine g_callV C E.2 (rest := []) 1 (ct_X5_whyNotNewDot kb1 eq2) wd_2_202 mm_X5_whyNotNewDot ⟨rfl, by decide, by decide, by decide⟩ rfl (by decide) kb1 (by decide) rfl rfl (Nat.le_of_ble_eq_true rfl) (by decide) (dk kX7_replace 3 rfl) ?_
  obtain ⟨q4, eq4, h⟩ := bd_inv h
  refine g_callS C E.2 (rest := []) 1 (ct_X7_refuse  eq4) wd_1_224 mm_X7_refuse ⟨by decide, by decide, by decide⟩ rfl (by decide) rfl (Nat.le_of_ble_eq_true rfl) (by decide) (dk kX7_replace 4 rfl) ?_
  refine g_aload_n C (i := 0) 0 rfl rfl (dk kX7_replace 5 rfl) ?_
  obtain ⟨μ6, eq5, h⟩ := bd_inv h
  refine g_callV C E.2 (rest := []) 0 (ct_X7_save k0 eq5) wd_2_87 mm_X7_save ⟨rfl, by decide, by decide, by decide⟩ rfl (by decide) k0 (by decide) rfl rfl (Nat.le_of_ble_eq_true rfl) (by decide) (dk kX7_replace 6 rfl) ?_
  refine g_aload_n C (i := 0) 0 rfl rfl (dk kX7_replace 7 rfl) ?_
  obtain ⟨b7, eb7, h⟩ := bd_inv h
  obtain ⟨rb7, kb7⟩ := rf_inv eb7
  refine gR_5_3 C k0 (C.w wd_1_190) rb7 (dk kX7_replace 8 rfl) ?_
  refine g_iload_n C (i := 1) 1 rfl rfl (dk kX7_replace 9 rfl) ?_
  obtain ⟨q8, eq8, h⟩ := bd_inv h
  obtain ⟨x10, ex10, h⟩ := lt_inv h
  obtain ⟨μ9, eμ9, h⟩ := lt_inv h
  rw [show q8 = (x10, μ9) from by rw [ex10, eμ9]] at eq8
  refine g_callV C E.2 (rest := []) 1 (ct_X5_newDot kb7 eq8) wd_2_210 mm_X5_newDot ⟨rfl, by decide, by decide, by decide⟩ rfl (by decide) kb7 (by decide) rfl rfl (Nat.le_of_ble_eq_true rfl) (by decide) (dk kX7_replace 10 rfl) ?_
  obtain ⟨h8, h9⟩ := Prod.mk.inj (Option.some.inj h)
  subst h8
  subst h9
  exact g_iret C E rfl rfl (Nat.le_refl 0) (Nat.le_refl 0) (dk kX7_replace 11 rfl)
theorem ct_X7_replace {l : Launch} {Z : ZZ} {μ : Mm} {a0 : Nat} {a1 : Int32} {r : Int32} {μ' : Mm} (k0 : (zk Z a0).1 = 5) (h : f_X7_replace (zk Z) μ a0 a1 = some (r, μ')) : CtM l Z false yX7_replace cX7_replace 2 (some .int) 4 0 0 [.ref (za Z a0), .int a1] μ (some (.int r)) Z μ' := ct_of rfl rfl (Nat.le_of_ble_eq_true rfl) (fun X C E => t_X7_replace μ a0 a1 r μ' k0 h C E)

def qX7_row : List (Nat × Instr × Nat) := [(0, .aload_n 0, 1), (1, .getfield 28, 3), (4, .iload_n 1, 1), (5, .iload_n 2, 1), (6, .bipush 6, 2), (8, .invokevirtual 115, 3), (11, .invokestatic 36, 3), (14, .aload_n 0, 1), (15, .getfield 28, 3), (18, .getfield 118, 3), (21, .iload_n 1, 1), (22, .aaload, 1), (23, .getfield 127, 3), (26, .iload_n 2, 1), (27, .iaload, 1), (28, .ireturn, 1)]
theorem kX7_row : ∀ q ∈ qX7_row, decode cX7_row q.1 = .ok q.2 := by decide +kernel
def f_X7_row (K : Nat → Nat × Nat) (μ : Mm) (a0 : Nat) (a1 : Int32) (a2 : Int32) : Option (Int32) :=
  bd (rf K μ a0 3 4) fun b1 => bd (f_X5_whyNotLabelValue K μ b1 a1 a2 6) fun x3 => bd (f_X7_refuse x3) fun q4 => bd (rf K μ a0 3 4) fun b5 => bd (rf K μ b5 3 10) fun b6 => gd (inb a1 (K b6).2) <| bd (rf K μ b6 (ix a1) 3) fun b8 => bd (rf K μ b8 4 8) fun b9 => gd (inb a2 (K b9).2) <| some (μ.1 b9 (ix a2))
set_option maxRecDepth 100000 in
set_option maxHeartbeats 4000000 in
theorem t_X7_row {l : Launch} {Z : ZZ} {X : XX} (μ : Mm) (a0 : Nat) (a1 : Int32) (a2 : Int32) (r : Int32) (k0 : (zk Z a0).1 = 5) (h : f_X7_row (zk Z) μ a0 a1 a2 = some r) (C : Cx l Z false X cX7_row RX7 3 (some .int)) (E : Ex Z X 2 0 0 (some (.int r)) Z μ) : G Z X 3 0 0 0 [(0, .ref (za Z a0)), (1, .int a1), (2, .int a2)] [] μ := by
  unfold f_X7_row at h
  refine g_aload_n C (i := 0) 0 rfl rfl (dk kX7_row 0 rfl) ?_
  obtain ⟨b1, eb1, h⟩ := bd_inv h
  obtain ⟨rb1, kb1⟩ := rf_inv eb1
  refine gR_5_3 C k0 (C.w wd_1_190) rb1 (dk kX7_row 1 rfl) ?_
  refine g_iload_n C (i := 1) 1 rfl rfl (dk kX7_row 2 rfl) ?_
  refine g_iload_n C (i := 2) 2 rfl rfl (dk kX7_row 3 rfl) ?_
  refine g_bipush C (v := 6) (by decide) (dk kX7_row 4 rfl) ?_
  obtain ⟨x3, eq2, h⟩ := bd_inv h
  refine g_callV C E.2 (rest := []) 3 (ct_X5_whyNotLabelValue kb1 eq2) wd_4_8 mm_X5_whyNotLabelValue ⟨rfl, by decide, by decide, by decide⟩ rfl (by decide) kb1 (by decide) rfl rfl (Nat.le_of_ble_eq_true rfl) (by decide) (dk kX7_row 5 rfl) ?_
  obtain ⟨q4, eq4, h⟩ := bd_inv h
  refine g_callS C E.2 (rest := []) 1 (ct_X7_refuse  eq4) wd_1_224 mm_X7_refuse ⟨by decide, by decide, by decide⟩ rfl (by decide) rfl (Nat.le_of_ble_eq_true rfl) (by decide) (dk kX7_row 6 rfl) ?_
  refine g_aload_n C (i := 0) 0 rfl rfl (dk kX7_row 7 rfl) ?_
  obtain ⟨b5, eb5, h⟩ := bd_inv h
  obtain ⟨rb5, kb5⟩ := rf_inv eb5
  refine gR_5_3 C k0 (C.w wd_1_190) rb5 (dk kX7_row 8 rfl) ?_
  obtain ⟨b6, eb6, h⟩ := bd_inv h
  obtain ⟨rb6, kb6⟩ := rf_inv eb6
  refine gRN_4_3 C kb5 (nf_23 C) rb6 (dk kX7_row 9 rfl) ?_
  refine g_iload_n C (i := 1) 1 rfl rfl (dk kX7_row 10 rfl) ?_
  obtain ⟨c7, h⟩ := gd_inv h
  obtain ⟨b8, eb8, h⟩ := bd_inv h
  obtain ⟨rb8, kb8⟩ := rf_inv eb8
  refine gA_10 C kb6 c7 rb8 (dk kX7_row 11 rfl) ?_
  obtain ⟨b9, eb9, h⟩ := bd_inv h
  obtain ⟨rb9, kb9⟩ := rf_inv eb9
  refine gRN_3_4 C kb8 (nf_15 C) rb9 (dk kX7_row 12 rfl) ?_
  refine g_iload_n C (i := 2) 2 rfl rfl (dk kX7_row 13 rfl) ?_
  obtain ⟨c10, h⟩ := gd_inv h
  refine g_iald C kb9 c10 (dk kX7_row 14 rfl) ?_
  have h9 := Option.some.inj h
  subst h9
  exact g_iret C E rfl rfl (Nat.le_refl 0) (Nat.le_refl 0) (dk kX7_row 15 rfl)
theorem ct_X7_row {l : Launch} {Z : ZZ} {μ : Mm} {a0 : Nat} {a1 : Int32} {a2 : Int32} {r : Int32} (k0 : (zk Z a0).1 = 5) (h : f_X7_row (zk Z) μ a0 a1 a2 = some r) : CtM l Z false yX7_row cX7_row 3 (some .int) 2 0 0 [.ref (za Z a0), .int a1, .int a2] μ (some (.int r)) Z μ := ct_of rfl rfl (Nat.le_of_ble_eq_true rfl) (fun X C E => t_X7_row μ a0 a1 a2 r k0 h C E)

def qX7_set : List (Nat × Instr × Nat) := [(0, .aload_n 0, 1), (1, .getfield 28, 3), (4, .iload_n 1, 1), (5, .iload_n 2, 1), (6, .invokevirtual 46, 3), (9, .invokestatic 36, 3), (12, .aload_n 0, 1), (13, .invokevirtual 40, 3), (16, .aload_n 0, 1), (17, .getfield 28, 3), (20, .iload_n 1, 1), (21, .iload_n 2, 1), (22, .invokevirtual 50, 3), (25, .ireturn, 1)]
theorem kX7_set : ∀ q ∈ qX7_set, decode cX7_set q.1 = .ok q.2 := by decide +kernel
def f_X7_set (K : Nat → Nat × Nat) (μ : Mm) (a0 : Nat) (a1 : Int32) (a2 : Int32) : Option (Int32 × Mm) :=
  bd (rf K μ a0 3 4) fun b1 => bd (f_X5_whyNotChangeSetting K μ b1 a1 a2) fun x3 => bd (f_X7_refuse x3) fun q4 => bd (f_X7_save K μ a0) fun μ6 => bd (rf K μ6 a0 3 4) fun b7 => bd (f_X5_changeSetting K μ6 b7 a1 a2) fun q8 => lt1 q8.1 fun x10 => lt1 q8.2 fun μ9 => some (x10, μ9)
set_option maxRecDepth 100000 in
set_option maxHeartbeats 4000000 in
theorem t_X7_set {l : Launch} {Z : ZZ} {X : XX} (μ : Mm) (a0 : Nat) (a1 : Int32) (a2 : Int32) (r : Int32) (μ' : Mm) (k0 : (zk Z a0).1 = 5) (h : f_X7_set (zk Z) μ a0 a1 a2 = some (r, μ')) (C : Cx l Z false X cX7_set RX7 3 (some .int)) (E : Ex Z X 4 0 0 (some (.int r)) Z μ') : G Z X 3 0 0 0 [(0, .ref (za Z a0)), (1, .int a1), (2, .int a2)] [] μ := by
  unfold f_X7_set at h
  refine g_aload_n C (i := 0) 0 rfl rfl (dk kX7_set 0 rfl) ?_
  obtain ⟨b1, eb1, h⟩ := bd_inv h
  obtain ⟨rb1, kb1⟩ := rf_inv eb1
  refine gR_5_3 C k0 (C.w wd_1_190) rb1 (dk kX7_set 1 rfl) ?_
  refine g_iload_n C (i := 1) 1 rfl rfl (dk kX7_set 2 rfl) ?_
  refine g_iload_n C (i := 2) 2 rfl rfl (dk kX7_set 3 rfl) ?_
  obtain ⟨x3, eq2, h⟩ := bd_inv h
  refine g_callV C E.2 (rest := []) 2 (ct_X5_whyNotChangeSetting kb1 eq2) wd_2_141 mm_X5_whyNotChangeSetting ⟨rfl, by decide, by decide, by decide⟩ rfl (by decide) kb1 (by decide) rfl rfl (Nat.le_of_ble_eq_true rfl) (by decide) (dk kX7_set 4 rfl) ?_
  obtain ⟨q4, eq4, h⟩ := bd_inv h
  refine g_callS C E.2 (rest := []) 1 (ct_X7_refuse  eq4) wd_1_224 mm_X7_refuse ⟨by decide, by decide, by decide⟩ rfl (by decide) rfl (Nat.le_of_ble_eq_true rfl) (by decide) (dk kX7_set 5 rfl) ?_
  refine g_aload_n C (i := 0) 0 rfl rfl (dk kX7_set 6 rfl) ?_
  obtain ⟨μ6, eq5, h⟩ := bd_inv h
  refine g_callV C E.2 (rest := []) 0 (ct_X7_save k0 eq5) wd_2_87 mm_X7_save ⟨rfl, by decide, by decide, by decide⟩ rfl (by decide) k0 (by decide) rfl rfl (Nat.le_of_ble_eq_true rfl) (by decide) (dk kX7_set 7 rfl) ?_
  refine g_aload_n C (i := 0) 0 rfl rfl (dk kX7_set 8 rfl) ?_
  obtain ⟨b7, eb7, h⟩ := bd_inv h
  obtain ⟨rb7, kb7⟩ := rf_inv eb7
  refine gR_5_3 C k0 (C.w wd_1_190) rb7 (dk kX7_set 9 rfl) ?_
  refine g_iload_n C (i := 1) 1 rfl rfl (dk kX7_set 10 rfl) ?_
  refine g_iload_n C (i := 2) 2 rfl rfl (dk kX7_set 11 rfl) ?_
  obtain ⟨q8, eq8, h⟩ := bd_inv h
  obtain ⟨x10, ex10, h⟩ := lt_inv h
  obtain ⟨μ9, eμ9, h⟩ := lt_inv h
  rw [show q8 = (x10, μ9) from by rw [ex10, eμ9]] at eq8
  refine g_callV C E.2 (rest := []) 2 (ct_X5_changeSetting kb7 eq8) wd_2_149 mm_X5_changeSetting ⟨rfl, by decide, by decide, by decide⟩ rfl (by decide) kb7 (by decide) rfl rfl (Nat.le_of_ble_eq_true rfl) (by decide) (dk kX7_set 12 rfl) ?_
  obtain ⟨h8, h9⟩ := Prod.mk.inj (Option.some.inj h)
  subst h8
  subst h9
  exact g_iret C E rfl rfl (Nat.le_refl 0) (Nat.le_refl 0) (dk kX7_set 13 rfl)
theorem ct_X7_set {l : Launch} {Z : ZZ} {μ : Mm} {a0 : Nat} {a1 : Int32} {a2 : Int32} {r : Int32} {μ' : Mm} (k0 : (zk Z a0).1 = 5) (h : f_X7_set (zk Z) μ a0 a1 a2 = some (r, μ')) : CtM l Z false yX7_set cX7_set 3 (some .int) 4 0 0 [.ref (za Z a0), .int a1, .int a2] μ (some (.int r)) Z μ' := ct_of rfl rfl (Nat.le_of_ble_eq_true rfl) (fun X C E => t_X7_set μ a0 a1 a2 r μ' k0 h C E)

def qX7_setRow : List (Nat × Instr × Nat) := [(0, .aload_n 0, 1), (1, .getfield 28, 3), (4, .iload_n 1, 1), (5, .iload_n 2, 1), (6, .iload_n 3, 1), (7, .invokevirtual 59, 3), (10, .invokestatic 36, 3), (13, .aload_n 0, 1), (14, .invokevirtual 40, 3), (17, .aload_n 0, 1), (18, .getfield 28, 3), (21, .iload_n 1, 1), (22, .iload_n 2, 1), (23, .iload_n 3, 1), (24, .invokevirtual 63, 3), (27, .ireturn, 1)]
theorem kX7_setRow : ∀ q ∈ qX7_setRow, decode cX7_setRow q.1 = .ok q.2 := by decide +kernel
def f_X7_setRow (K : Nat → Nat × Nat) (μ : Mm) (a0 : Nat) (a1 : Int32) (a2 : Int32) (a3 : Int32) : Option (Int32 × Mm) :=
  bd (rf K μ a0 3 4) fun b1 => bd (f_X5_whyNotChangeRow K μ b1 a1 a2 a3) fun x3 => bd (f_X7_refuse x3) fun q4 => bd (f_X7_save K μ a0) fun μ6 => bd (rf K μ6 a0 3 4) fun b7 => bd (f_X5_changeRow K μ6 b7 a1 a2 a3) fun q8 => lt1 q8.1 fun x10 => lt1 q8.2 fun μ9 => some (x10, μ9)
set_option maxRecDepth 100000 in
set_option maxHeartbeats 4000000 in
theorem t_X7_setRow {l : Launch} {Z : ZZ} {X : XX} (μ : Mm) (a0 : Nat) (a1 : Int32) (a2 : Int32) (a3 : Int32) (r : Int32) (μ' : Mm) (k0 : (zk Z a0).1 = 5) (h : f_X7_setRow (zk Z) μ a0 a1 a2 a3 = some (r, μ')) (C : Cx l Z false X cX7_setRow RX7 4 (some .int)) (E : Ex Z X 4 0 0 (some (.int r)) Z μ') : G Z X 4 0 0 0 [(0, .ref (za Z a0)), (1, .int a1), (2, .int a2), (3, .int a3)] [] μ := by
  unfold f_X7_setRow at h
  refine g_aload_n C (i := 0) 0 rfl rfl (dk kX7_setRow 0 rfl) ?_
  obtain ⟨b1, eb1, h⟩ := bd_inv h
  obtain ⟨rb1, kb1⟩ := rf_inv eb1
  refine gR_5_3 C k0 (C.w wd_1_190) rb1 (dk kX7_setRow 1 rfl) ?_
  refine g_iload_n C (i := 1) 1 rfl rfl (dk kX7_setRow 2 rfl) ?_
  refine g_iload_n C (i := 2) 2 rfl rfl (dk kX7_setRow 3 rfl) ?_
  refine g_iload_n C (i := 3) 3 rfl rfl (dk kX7_setRow 4 rfl) ?_
  obtain ⟨x3, eq2, h⟩ := bd_inv h
  refine g_callV C E.2 (rest := []) 3 (ct_X5_whyNotChangeRow kb1 eq2) wd_2_178 mm_X5_whyNotChangeRow ⟨rfl, by decide, by decide, by decide⟩ rfl (by decide) kb1 (by decide) rfl rfl (Nat.le_of_ble_eq_true rfl) (by decide) (dk kX7_setRow 5 rfl) ?_
  obtain ⟨q4, eq4, h⟩ := bd_inv h
  refine g_callS C E.2 (rest := []) 1 (ct_X7_refuse  eq4) wd_1_224 mm_X7_refuse ⟨by decide, by decide, by decide⟩ rfl (by decide) rfl (Nat.le_of_ble_eq_true rfl) (by decide) (dk kX7_setRow 6 rfl) ?_
  refine g_aload_n C (i := 0) 0 rfl rfl (dk kX7_setRow 7 rfl) ?_
  obtain ⟨μ6, eq5, h⟩ := bd_inv h
  refine g_callV C E.2 (rest := []) 0 (ct_X7_save k0 eq5) wd_2_87 mm_X7_save ⟨rfl, by decide, by decide, by decide⟩ rfl (by decide) k0 (by decide) rfl rfl (Nat.le_of_ble_eq_true rfl) (by decide) (dk kX7_setRow 8 rfl) ?_
  refine g_aload_n C (i := 0) 0 rfl rfl (dk kX7_setRow 9 rfl) ?_
  obtain ⟨b7, eb7, h⟩ := bd_inv h
  obtain ⟨rb7, kb7⟩ := rf_inv eb7
  refine gR_5_3 C k0 (C.w wd_1_190) rb7 (dk kX7_setRow 10 rfl) ?_
  refine g_iload_n C (i := 1) 1 rfl rfl (dk kX7_setRow 11 rfl) ?_
  refine g_iload_n C (i := 2) 2 rfl rfl (dk kX7_setRow 12 rfl) ?_
  refine g_iload_n C (i := 3) 3 rfl rfl (dk kX7_setRow 13 rfl) ?_
  obtain ⟨q8, eq8, h⟩ := bd_inv h
  obtain ⟨x10, ex10, h⟩ := lt_inv h
  obtain ⟨μ9, eμ9, h⟩ := lt_inv h
  rw [show q8 = (x10, μ9) from by rw [ex10, eμ9]] at eq8
  refine g_callV C E.2 (rest := []) 3 (ct_X5_changeRow kb7 eq8) wd_2_190 mm_X5_changeRow ⟨rfl, by decide, by decide, by decide⟩ rfl (by decide) kb7 (by decide) rfl rfl (Nat.le_of_ble_eq_true rfl) (by decide) (dk kX7_setRow 14 rfl) ?_
  obtain ⟨h8, h9⟩ := Prod.mk.inj (Option.some.inj h)
  subst h8
  subst h9
  exact g_iret C E rfl rfl (Nat.le_refl 0) (Nat.le_refl 0) (dk kX7_setRow 15 rfl)
theorem ct_X7_setRow {l : Launch} {Z : ZZ} {μ : Mm} {a0 : Nat} {a1 : Int32} {a2 : Int32} {a3 : Int32} {r : Int32} {μ' : Mm} (k0 : (zk Z a0).1 = 5) (h : f_X7_setRow (zk Z) μ a0 a1 a2 a3 = some (r, μ')) : CtM l Z false yX7_setRow cX7_setRow 4 (some .int) 4 0 0 [.ref (za Z a0), .int a1, .int a2, .int a3] μ (some (.int r)) Z μ' := ct_of rfl rfl (Nat.le_of_ble_eq_true rfl) (fun X C E => t_X7_setRow μ a0 a1 a2 a3 r μ' k0 h C E)

def qX7_whole : List (Nat × Instr × Nat) := [(0, .iload_n 1, 1), (1, .ifCond .lt 9, 3), (4, .iload_n 1, 1), (5, .bipush 18, 2), (7, .if_icmp .lt 7, 3), (10, .iconst 2, 1), (11, .goto 4, 3), (14, .iconst 0, 1), (15, .invokestatic 36, 3), (18, .iload_n 1, 1), (19, .bipush 17, 2), (21, .if_icmp .ne 13, 3), (24, .aload_n 0, 1), (25, .getfield 10, 3), (28, .getfield 141, 3), (31, .goto 11, 3), (34, .aload_n 0, 1), (35, .getfield 28, 3), (38, .iload_n 1, 1), (39, .invokevirtual 145, 3), (42, .ireturn, 1)]
theorem kX7_whole : ∀ q ∈ qX7_whole, decode cX7_whole q.1 = .ok q.2 := by decide +kernel
def f_X7_whole (K : Nat → Nat × Nat) (μ : Mm) (a0 : Nat) (a1 : Int32) : Option (Int32) :=
  lt1 (α := Int32) (if a1 < 0 then 2 else (if a1 < 18 then 0 else 2)) fun x1 => bd (f_X7_refuse x1) fun q3 => if a1 = 17 then (bd (rf K μ a0 0 0) fun b8 => some (μ.1 b8 1)) else (bd (rf K μ a0 3 4) fun b5 => bd (f_X5_wholeValue K μ b5 a1) fun x7 => some x7)
set_option maxRecDepth 100000 in
set_option maxHeartbeats 4000000 in
theorem t_X7_whole {l : Launch} {Z : ZZ} {X : XX} (μ : Mm) (a0 : Nat) (a1 : Int32) (r : Int32) (k0 : (zk Z a0).1 = 5) (h : f_X7_whole (zk Z) μ a0 a1 = some r) (C : Cx l Z false X cX7_whole RX7 2 (some .int)) (E : Ex Z X 3 0 0 (some (.int r)) Z μ) : G Z X 2 0 0 0 [(0, .ref (za Z a0)), (1, .int a1)] [] μ := by
  unfold f_X7_whole at h
  refine g_iload_n C (i := 1) 1 rfl rfl (dk kX7_whole 0 rfl) ?_
  obtain ⟨x1, ex1, h⟩ := lt_inv h
  have kj2 : G Z X 2 0 0 15 [(0, .ref (za Z a0)), (1, .int a1)] [.int x1] μ := by
    obtain ⟨q3, eq3, h⟩ := bd_inv h
    refine g_callS C E.2 (rest := []) 1 (ct_X7_refuse  eq3) wd_1_224 mm_X7_refuse ⟨by decide, by decide, by decide⟩ rfl (by decide) rfl (Nat.le_of_ble_eq_true rfl) (by decide) (dk kX7_whole 8 rfl) ?_
    refine g_iload_n C (i := 1) 1 rfl rfl (dk kX7_whole 9 rfl) ?_
    refine g_bipush C (v := 17) (by decide) (dk kX7_whole 10 rfl) ?_
    refine g_icmp_ne C (tgt := 34) (dk kX7_whole 11 rfl) (by decide) (fun c4 => ?_) (fun c4 => ?_)
    · replace h := ite_f h c4
      refine g_aload_n C (i := 0) 0 rfl rfl (dk kX7_whole 16 rfl) ?_
      obtain ⟨b5, eb5, h⟩ := bd_inv h
      obtain ⟨rb5, kb5⟩ := rf_inv eb5
      refine gR_5_3 C k0 (C.w wd_1_190) rb5 (dk kX7_whole 17 rfl) ?_
      refine g_iload_n C (i := 1) 1 rfl rfl (dk kX7_whole 18 rfl) ?_
      obtain ⟨x7, eq6, h⟩ := bd_inv h
      refine g_callV C E.2 (rest := []) 1 (ct_X5_wholeValue kb5 eq6) wd_3_222 mm_X5_wholeValue ⟨rfl, by decide, by decide, by decide⟩ rfl (by decide) kb5 (by decide) rfl rfl (Nat.le_of_ble_eq_true rfl) (by decide) (dk kX7_whole 19 rfl) ?_
      have h9 := Option.some.inj h
      subst h9
      exact g_iret C E rfl rfl (Nat.le_refl 0) (Nat.le_refl 0) (dk kX7_whole 20 rfl)
    · replace h := ite_t h c4
      refine g_aload_n C (i := 0) 0 rfl rfl (dk kX7_whole 12 rfl) ?_
      obtain ⟨b8, eb8, h⟩ := bd_inv h
      obtain ⟨rb8, kb8⟩ := rf_inv eb8
      refine gR_5_0 C k0 (C.w wd_1_187) rb8 (dk kX7_whole 13 rfl) ?_
      refine gIN_0_1 C kb8 (nf_0 C) (dk kX7_whole 14 rfl) ?_
      refine g_goto C (tgt := 42) (dk kX7_whole 15 rfl) (by decide) ?_
      have h9 := Option.some.inj h
      subst h9
      exact g_iret C E rfl rfl (Nat.le_refl 0) (Nat.le_refl 0) (dk kX7_whole 20 rfl)
  clear h
  refine g_if_lt C (tgt := 10) (dk kX7_whole 1 rfl) (by decide) (fun c9 => ?_) (fun c9 => ?_)
  · refine g_iconst C (v := 2) (by decide) (dk kX7_whole 5 rfl) ?_
    refine g_goto C (tgt := 15) (dk kX7_whole 6 rfl) (by decide) ?_
    exact g_nmi (by rw [ex1, if_pos c9]) kj2
  · refine g_iload_n C (i := 1) 1 rfl rfl (dk kX7_whole 2 rfl) ?_
    refine g_bipush C (v := 18) (by decide) (dk kX7_whole 3 rfl) ?_
    refine g_icmp_lt C (tgt := 14) (dk kX7_whole 4 rfl) (by decide) (fun c10 => ?_) (fun c10 => ?_)
    · refine g_iconst C (v := 0) (by decide) (dk kX7_whole 7 rfl) ?_
      exact g_nmi (by rw [ex1, if_neg c9, if_pos c10]) kj2
    · refine g_iconst C (v := 2) (by decide) (dk kX7_whole 5 rfl) ?_
      refine g_goto C (tgt := 15) (dk kX7_whole 6 rfl) (by decide) ?_
      exact g_nmi (by rw [ex1, if_neg c9, if_neg c10]) kj2
theorem ct_X7_whole {l : Launch} {Z : ZZ} {μ : Mm} {a0 : Nat} {a1 : Int32} {r : Int32} (k0 : (zk Z a0).1 = 5) (h : f_X7_whole (zk Z) μ a0 a1 = some r) : CtM l Z false yX7_whole cX7_whole 2 (some .int) 3 0 0 [.ref (za Z a0), .int a1] μ (some (.int r)) Z μ := ct_of rfl rfl (Nat.le_of_ble_eq_true rfl) (fun X C E => t_X7_whole μ a0 a1 r k0 h C E)
