def qX7_refuse : List (Nat × Instr × Nat) := [(0, .iload_n 0, 1), (1, .iconst 1, 1), (2, .if_icmp .ne 13, 3), (5, .new 249, 3), (8, .dup, 1), (9, .ldc 251, 2), (11, .invokespecial 253, 3), (14, .athrow, 1), (15, .iload_n 0, 1), (16, .iconst 2, 1), (17, .if_icmp .ne 14, 3), (20, .new 256, 3), (23, .dup, 1), (24, .ldc_w 258, 3), (27, .invokespecial 260, 3), (30, .athrow, 1), (31, .iload_n 0, 1), (32, .iconst 3, 1), (33, .if_icmp .ne 14, 3), (36, .new 261, 3), (39, .dup, 1), (40, .ldc_w 263, 3), (43, .invokespecial 265, 3), (46, .athrow, 1), (47, .return_, 1)]
theorem kX7_refuse : ∀ q ∈ qX7_refuse, decode cX7_refuse q.1 = .ok q.2 := by decide +kernel
def f_X7_refuse (a0 : Int32) : Option (Unit) :=
  if a0 = 1 then (none) else (if a0 = 2 then (none) else (if a0 = 3 then (none) else (some ())))
set_option maxRecDepth 100000 in
set_option maxHeartbeats 4000000 in
theorem t_X7_refuse {l : Launch} {Z : ZZ} {X : XX} (μ : Mm) (a0 : Int32)  (h : f_X7_refuse a0 = some ()) (C : Cx l Z false X cX7_refuse RX7 1 none) (E : Ex Z X 0 0 0 none Z μ) : G Z X 1 0 0 0 [(0, .int a0)] [] μ := by
  unfold f_X7_refuse at h
  refine g_iload_n C (i := 0) 0 rfl rfl (dk kX7_refuse 0 rfl) ?_
  refine g_iconst C (v := 1) (by decide) (dk kX7_refuse 1 rfl) ?_
  refine g_icmp_ne C (tgt := 15) (dk kX7_refuse 2 rfl) (by decide) (fun c1 => ?_) (fun c1 => ?_)
  · replace h := ite_f h c1
    refine g_iload_n C (i := 0) 0 rfl rfl (dk kX7_refuse 8 rfl) ?_
    refine g_iconst C (v := 2) (by decide) (dk kX7_refuse 9 rfl) ?_
    refine g_icmp_ne C (tgt := 31) (dk kX7_refuse 10 rfl) (by decide) (fun c2 => ?_) (fun c2 => ?_)
    · replace h := ite_f h c2
      refine g_iload_n C (i := 0) 0 rfl rfl (dk kX7_refuse 16 rfl) ?_
      refine g_iconst C (v := 3) (by decide) (dk kX7_refuse 17 rfl) ?_
      refine g_icmp_ne C (tgt := 47) (dk kX7_refuse 18 rfl) (by decide) (fun c3 => ?_) (fun c3 => ?_)
      · replace h := ite_f h c3
        cases h
        exact g_vret C E (Nat.le_refl 0) (Nat.le_refl 0) (dk kX7_refuse 24 rfl)
      · replace h := ite_t h c3
        cases h
    · replace h := ite_t h c2
      cases h
  · replace h := ite_t h c1
    cases h
theorem ct_X7_refuse {l : Launch} {Z : ZZ} {μ : Mm} {a0 : Int32}  (h : f_X7_refuse a0 = some ()) : CtM l Z false yX7_refuse cX7_refuse 1 none 0 0 0 [.int a0] μ none Z μ := ct_of rfl rfl (Nat.le_of_ble_eq_true rfl) (fun X C E => t_X7_refuse μ a0  h C E)

def qX7_save : List (Nat × Instr × Nat) := [(0, .aload_n 0, 1), (1, .getfield 209, 3), (4, .iconst 4, 1), (5, .if_icmp .ne 54, 3), (8, .aload_n 0, 1), (9, .getfield 18, 3), (12, .iconst 0, 1), (13, .aaload, 1), (14, .astore_n 1, 1), (15, .iconst 1, 1), (16, .istore_n 2, 1), (17, .iload_n 2, 1), (18, .iconst 4, 1), (19, .if_icmp .ge 23, 3), (22, .aload_n 0, 1), (23, .getfield 18, 3), (26, .iload_n 2, 1), (27, .iconst 1, 1), (28, .isub, 1), (29, .aload_n 0, 1), (30, .getfield 18, 3), (33, .iload_n 2, 1), (34, .aaload, 1), (35, .aastore, 1), (36, .iinc 2 1, 3), (39, .goto (-22), 3), (42, .aload_n 0, 1), (43, .getfield 18, 3), (46, .iconst 3, 1), (47, .aload_n 1, 1), (48, .aastore, 1), (49, .aload_n 0, 1), (50, .dup, 1), (51, .getfield 209, 3), (54, .iconst 1, 1), (55, .isub, 1), (56, .putfield 209, 3), (59, .aload_n 0, 1), (60, .getfield 18, 3), (63, .aload_n 0, 1), (64, .getfield 209, 3), (67, .aaload, 1), (68, .aload_n 0, 1), (69, .getfield 28, 3), (72, .invokevirtual 212, 3), (75, .aload_n 0, 1), (76, .dup, 1), (77, .getfield 209, 3), (80, .iconst 1, 1), (81, .iadd, 1), (82, .putfield 209, 3), (85, .return_, 1)]
theorem kX7_save : ∀ q ∈ qX7_save, decode cX7_save q.1 = .ok q.2 := by decide +kernel
def f_X7_save_l17 (K : Nat → Nat × Nat) (v0 : Nat) (v1 : Nat) : Nat → Mm → Int32 → Option (Mm)
  | 0, _, _ => none
  | n + 1, μ, v2 => if 4 ≤ v2 then (some μ) else (bd (rf K μ v0 1 11) fun b13 => bd (rf K μ v0 1 11) fun b14 => gd (inb v2 (K b14).2) <| bd (rf K μ b14 (ix v2) 4) fun b16 => gd (inb (v2 - 1) (K b13).2) <| lt1 (sR μ b13 (ix (v2 - 1)) (some b16)) fun μ18 => lt1 (α := Int32) (v2 + 1) fun x19 => f_X7_save_l17 K v0 v1 n μ18 x19)
def f_X7_save (K : Nat → Nat × Nat) (μ : Mm) (a0 : Nat) : Option (Mm) :=
  if (μ.1 a0 2) = 4 then (bd (rf K μ a0 1 11) fun b9 => gd (inb 0 (K b9).2) <| bd (rf K μ b9 (ix 0) 4) fun b11 => bd (f_X7_save_l17 K a0 b11 FU μ 1) fun q20 => lt1 q20 fun μ21 => bd (rf K μ21 a0 1 11) fun b22 => gd (inb 3 (K b22).2) <| lt1 (sR μ21 b22 (ix 3) (some b11)) fun μ24 => lt1 (sI μ24 a0 2 ((μ24.1 a0 2) - 1)) fun μ25 => bd (rf K μ25 a0 1 11) fun b26 => gd (inb (μ25.1 a0 2) (K b26).2) <| bd (rf K μ25 b26 (ix (μ25.1 a0 2)) 4) fun b28 => bd (rf K μ25 a0 3 4) fun b29 => bd (f_X5_takeOver K μ25 b28 b29) fun μ31 => lt1 (sI μ31 a0 2 ((μ31.1 a0 2) + 1)) fun μ32 => some (μ32)) else (bd (rf K μ a0 1 11) fun b2 => gd (inb (μ.1 a0 2) (K b2).2) <| bd (rf K μ b2 (ix (μ.1 a0 2)) 4) fun b4 => bd (rf K μ a0 3 4) fun b5 => bd (f_X5_takeOver K μ b4 b5) fun μ7 => lt1 (sI μ7 a0 2 ((μ7.1 a0 2) + 1)) fun μ8 => some (μ8))
set_option maxRecDepth 100000 in
set_option maxHeartbeats 4000000 in
theorem gl_X7_save_17 {l : Launch} {Z : ZZ} {X : XX} (v0 : Nat) (v1 : Nat) (k0 : (zk Z v0).1 = 5) (k1 : (zk Z v1).1 = 4) (C : Cx l Z false X cX7_save RX7 3 none) (E : xR X = rmm 3 0 0) : ∀ (n : Nat) (μ : Mm) (v2 : Int32) (y : Mm), f_X7_save_l17 (zk Z) v0 v1 n μ v2 = some y → G Z X 3 0 0 42 [(0, .ref (za Z v0)), (1, .ref (za Z v1))] [] y → G Z X 3 0 0 17 [(0, .ref (za Z v0)), (1, .ref (za Z v1)), (2, .int v2)] [] μ := by
  intro n
  induction n with
  | zero => intro μ v2 y h he; unfold f_X7_save_l17 at h; cases h
  | succ n ih =>
    intro μ v2 y h he
    unfold f_X7_save_l17 at h
    refine g_iload_n C (i := 2) 2 rfl rfl (dk kX7_save 11 rfl) ?_
    refine g_iconst C (v := 4) (by decide) (dk kX7_save 12 rfl) ?_
    refine g_icmp_ge C (tgt := 42) (dk kX7_save 13 rfl) (by decide) (fun c12 => ?_) (fun c12 => ?_)
    · replace h := ite_t h c12
      cases h
      exact g_sub [0, 1] rfl he
    · replace h := ite_f h c12
      refine g_aload_n C (i := 0) 0 rfl rfl (dk kX7_save 14 rfl) ?_
      obtain ⟨b13, eb13, h⟩ := bd_inv h
      obtain ⟨rb13, kb13⟩ := rf_inv eb13
      refine gR_5_1 C k0 (C.w wd_1_201) rb13 (dk kX7_save 15 rfl) ?_
      refine g_iload_n C (i := 2) 2 rfl rfl (dk kX7_save 16 rfl) ?_
      refine g_iconst C (v := 1) (by decide) (dk kX7_save 17 rfl) ?_
      refine g_isub C (dk kX7_save 18 rfl) ?_
      refine g_aload_n C (i := 0) 0 rfl rfl (dk kX7_save 19 rfl) ?_
      obtain ⟨b14, eb14, h⟩ := bd_inv h
      obtain ⟨rb14, kb14⟩ := rf_inv eb14
      refine gR_5_1 C k0 (C.w wd_1_201) rb14 (dk kX7_save 20 rfl) ?_
      refine g_iload_n C (i := 2) 2 rfl rfl (dk kX7_save 21 rfl) ?_
      obtain ⟨c15, h⟩ := gd_inv h
      obtain ⟨b16, eb16, h⟩ := bd_inv h
      obtain ⟨rb16, kb16⟩ := rf_inv eb16
      refine gA_11 C kb14 c15 rb16 (dk kX7_save 22 rfl) ?_
      obtain ⟨c17, h⟩ := gd_inv h
      obtain ⟨μ18, eμ18, h⟩ := lt_inv h
      refine pA_11 C kb13 c17 kb16 eμ18 (dk kX7_save 23 rfl) ?_
      obtain ⟨x19, ex19, h⟩ := lt_inv h
      refine g_iinc C (i := 2) (v := x19) (lv' := [(2, .int x19), (0, .ref (za Z v0)), (1, .ref (za Z v1))]) 2 (dk kX7_save 24 rfl) rfl (by rw [ex19]; rfl) (by decide) rfl ?_
      refine g_goto C (tgt := 17) (dk kX7_save 25 rfl) (by decide) ?_
      exact g_sub [1, 2, 0] rfl (ih μ18 x19 y h he)
set_option maxRecDepth 100000 in
set_option maxHeartbeats 4000000 in
theorem t_X7_save {l : Launch} {Z : ZZ} {X : XX} (μ : Mm) (a0 : Nat) (μ' : Mm) (k0 : (zk Z a0).1 = 5) (h : f_X7_save (zk Z) μ a0 = some μ') (C : Cx l Z false X cX7_save RX7 3 none) (E : Ex Z X 3 0 0 none Z μ') : G Z X 3 0 0 0 [(0, .ref (za Z a0))] [] μ := by
  unfold f_X7_save at h
  refine g_aload_n C (i := 0) 0 rfl rfl (dk kX7_save 0 rfl) ?_
  refine gI_5_2 C k0 (C.w wd_1_202) (dk kX7_save 1 rfl) ?_
  refine g_iconst C (v := 4) (by decide) (dk kX7_save 2 rfl) ?_
  refine g_icmp_ne C (tgt := 59) (dk kX7_save 3 rfl) (by decide) (fun c1 => ?_) (fun c1 => ?_)
  · replace h := ite_f h c1
    refine g_aload_n C (i := 0) 0 rfl rfl (dk kX7_save 37 rfl) ?_
    obtain ⟨b2, eb2, h⟩ := bd_inv h
    obtain ⟨rb2, kb2⟩ := rf_inv eb2
    refine gR_5_1 C k0 (C.w wd_1_201) rb2 (dk kX7_save 38 rfl) ?_
    refine g_aload_n C (i := 0) 0 rfl rfl (dk kX7_save 39 rfl) ?_
    refine gI_5_2 C k0 (C.w wd_1_202) (dk kX7_save 40 rfl) ?_
    obtain ⟨c3, h⟩ := gd_inv h
    obtain ⟨b4, eb4, h⟩ := bd_inv h
    obtain ⟨rb4, kb4⟩ := rf_inv eb4
    refine gA_11 C kb2 c3 rb4 (dk kX7_save 41 rfl) ?_
    refine g_aload_n C (i := 0) 0 rfl rfl (dk kX7_save 42 rfl) ?_
    obtain ⟨b5, eb5, h⟩ := bd_inv h
    obtain ⟨rb5, kb5⟩ := rf_inv eb5
    refine gR_5_3 C k0 (C.w wd_1_203) rb5 (dk kX7_save 43 rfl) ?_
    obtain ⟨μ7, eq6, h⟩ := bd_inv h
    refine g_callV C E.2 (rest := []) 1 (ct_X5_takeOver kb4 kb5 eq6) wd_2_87 mm_X5_takeOver ⟨rfl, by decide, by decide, by decide⟩ rfl (by decide) kb4 (by decide) rfl rfl (Nat.le_of_ble_eq_true rfl) (by decide) (dk kX7_save 44 rfl) ?_
    refine g_aload_n C (i := 0) 0 rfl rfl (dk kX7_save 45 rfl) ?_
    refine g_dup C rfl (dk kX7_save 46 rfl) ?_
    refine gI_5_2 C k0 (C.w wd_1_202) (dk kX7_save 47 rfl) ?_
    refine g_iconst C (v := 1) (by decide) (dk kX7_save 48 rfl) ?_
    refine g_iadd C (dk kX7_save 49 rfl) ?_
    obtain ⟨μ8, eμ8, h⟩ := lt_inv h
    refine pI_5_2 C k0 (C.w wd_1_202) eμ8 (dk kX7_save 50 rfl) ?_
    have h9 := Option.some.inj h
    subst h9
    exact g_vret C E (Nat.le_refl 0) (Nat.le_refl 0) (dk kX7_save 51 rfl)
  · replace h := ite_t h c1
    refine g_aload_n C (i := 0) 0 rfl rfl (dk kX7_save 4 rfl) ?_
    obtain ⟨b9, eb9, h⟩ := bd_inv h
    obtain ⟨rb9, kb9⟩ := rf_inv eb9
    refine gR_5_1 C k0 (C.w wd_1_201) rb9 (dk kX7_save 5 rfl) ?_
    refine g_iconst C (v := 0) (by decide) (dk kX7_save 6 rfl) ?_
    obtain ⟨c10, h⟩ := gd_inv h
    obtain ⟨b11, eb11, h⟩ := bd_inv h
    obtain ⟨rb11, kb11⟩ := rf_inv eb11
    refine gA_11 C kb9 c10 rb11 (dk kX7_save 7 rfl) ?_
    refine g_astore_n C (i := 1) (lv' := [(1, .ref (za Z b11)), (0, .ref (za Z a0))]) (dk kX7_save 8 rfl) rfl (by decide) rfl ?_
    refine g_iconst C (v := 1) (by decide) (dk kX7_save 9 rfl) ?_
    refine g_istore_n C (i := 2) (lv' := [(2, .int 1), (1, .ref (za Z b11)), (0, .ref (za Z a0))]) (dk kX7_save 10 rfl) rfl (by decide) rfl ?_
    obtain ⟨q20, eq20, h⟩ := bd_inv h
    refine g_sub [2, 1, 0] (lv' := [(0, .ref (za Z a0)), (1, .ref (za Z b11)), (2, .int 1)]) rfl ?_
    refine gl_X7_save_17 a0 b11 k0 kb11 C E.2 FU μ 1 _ eq20 ?_
    obtain ⟨μ21, eμ21, h⟩ := lt_inv h
    rw [← eμ21]
    refine g_aload_n C (i := 0) 0 rfl rfl (dk kX7_save 26 rfl) ?_
    obtain ⟨b22, eb22, h⟩ := bd_inv h
    obtain ⟨rb22, kb22⟩ := rf_inv eb22
    refine gR_5_1 C k0 (C.w wd_1_201) rb22 (dk kX7_save 27 rfl) ?_
    refine g_iconst C (v := 3) (by decide) (dk kX7_save 28 rfl) ?_
    refine g_aload_n C (i := 1) 1 rfl rfl (dk kX7_save 29 rfl) ?_
    obtain ⟨c23, h⟩ := gd_inv h
    obtain ⟨μ24, eμ24, h⟩ := lt_inv h
    refine pA_11 C kb22 c23 kb11 eμ24 (dk kX7_save 30 rfl) ?_
    refine g_aload_n C (i := 0) 0 rfl rfl (dk kX7_save 31 rfl) ?_
    refine g_dup C rfl (dk kX7_save 32 rfl) ?_
    refine gI_5_2 C k0 (C.w wd_1_202) (dk kX7_save 33 rfl) ?_
    refine g_iconst C (v := 1) (by decide) (dk kX7_save 34 rfl) ?_
    refine g_isub C (dk kX7_save 35 rfl) ?_
    obtain ⟨μ25, eμ25, h⟩ := lt_inv h
    refine pI_5_2 C k0 (C.w wd_1_202) eμ25 (dk kX7_save 36 rfl) ?_
    refine g_aload_n C (i := 0) 0 rfl rfl (dk kX7_save 37 rfl) ?_
    obtain ⟨b26, eb26, h⟩ := bd_inv h
    obtain ⟨rb26, kb26⟩ := rf_inv eb26
    refine gR_5_1 C k0 (C.w wd_1_201) rb26 (dk kX7_save 38 rfl) ?_
    refine g_aload_n C (i := 0) 0 rfl rfl (dk kX7_save 39 rfl) ?_
    refine gI_5_2 C k0 (C.w wd_1_202) (dk kX7_save 40 rfl) ?_
    obtain ⟨c27, h⟩ := gd_inv h
    obtain ⟨b28, eb28, h⟩ := bd_inv h
    obtain ⟨rb28, kb28⟩ := rf_inv eb28
    refine gA_11 C kb26 c27 rb28 (dk kX7_save 41 rfl) ?_
    refine g_aload_n C (i := 0) 0 rfl rfl (dk kX7_save 42 rfl) ?_
    obtain ⟨b29, eb29, h⟩ := bd_inv h
    obtain ⟨rb29, kb29⟩ := rf_inv eb29
    refine gR_5_3 C k0 (C.w wd_1_203) rb29 (dk kX7_save 43 rfl) ?_
    obtain ⟨μ31, eq30, h⟩ := bd_inv h
    refine g_callV C E.2 (rest := []) 1 (ct_X5_takeOver kb28 kb29 eq30) wd_2_87 mm_X5_takeOver ⟨rfl, by decide, by decide, by decide⟩ rfl (by decide) kb28 (by decide) rfl rfl (Nat.le_of_ble_eq_true rfl) (by decide) (dk kX7_save 44 rfl) ?_
    refine g_aload_n C (i := 0) 0 rfl rfl (dk kX7_save 45 rfl) ?_
    refine g_dup C rfl (dk kX7_save 46 rfl) ?_
    refine gI_5_2 C k0 (C.w wd_1_202) (dk kX7_save 47 rfl) ?_
    refine g_iconst C (v := 1) (by decide) (dk kX7_save 48 rfl) ?_
    refine g_iadd C (dk kX7_save 49 rfl) ?_
    obtain ⟨μ32, eμ32, h⟩ := lt_inv h
    refine pI_5_2 C k0 (C.w wd_1_202) eμ32 (dk kX7_save 50 rfl) ?_
    have h9 := Option.some.inj h
    subst h9
    exact g_vret C E (Nat.le_refl 0) (Nat.le_refl 0) (dk kX7_save 51 rfl)
theorem ct_X7_save {l : Launch} {Z : ZZ} {μ : Mm} {a0 : Nat} {μ' : Mm} (k0 : (zk Z a0).1 = 5) (h : f_X7_save (zk Z) μ a0 = some μ') : CtM l Z false yX7_save cX7_save 3 none 3 0 0 [.ref (za Z a0)] μ none Z μ' := ct_of rfl rfl (Nat.le_of_ble_eq_true rfl) (fun X C E => t_X7_save μ a0 μ' k0 h C E)

def qX7_addCustomer : List (Nat × Instr × Nat) := [(0, .aload_n 0, 1), (1, .getfield 28, 3), (4, .invokevirtual 78, 3), (7, .invokestatic 36, 3), (10, .aload_n 0, 1), (11, .invokevirtual 40, 3), (14, .aload_n 0, 1), (15, .getfield 28, 3), (18, .invokevirtual 82, 3), (21, .ireturn, 1)]
theorem kX7_addCustomer : ∀ q ∈ qX7_addCustomer, decode cX7_addCustomer q.1 = .ok q.2 := by decide +kernel
def f_X7_addCustomer (K : Nat → Nat × Nat) (μ : Mm) (a0 : Nat) : Option (Int32 × Mm) :=
  bd (rf K μ a0 3 4) fun b1 => bd (f_X5_whyNotNewCustomer K μ b1) fun x3 => bd (f_X7_refuse x3) fun q4 => bd (f_X7_save K μ a0) fun μ6 => bd (rf K μ6 a0 3 4) fun b7 => bd (f_X5_newCustomer K μ6 b7) fun q8 => lt1 q8.1 fun x10 => lt1 q8.2 fun μ9 => some (x10, μ9)
set_option maxRecDepth 100000 in
set_option maxHeartbeats 4000000 in
theorem t_X7_addCustomer {l : Launch} {Z : ZZ} {X : XX} (μ : Mm) (a0 : Nat) (r : Int32) (μ' : Mm) (k0 : (zk Z a0).1 = 5) (h : f_X7_addCustomer (zk Z) μ a0 = some (r, μ')) (C : Cx l Z false X cX7_addCustomer RX7 1 (some .int)) (E : Ex Z X 4 0 0 (some (.int r)) Z μ') : G Z X 1 0 0 0 [(0, .ref (za Z a0))] [] μ := by
  unfold f_X7_addCustomer at h
  refine g_aload_n C (i := 0) 0 rfl rfl (dk kX7_addCustomer 0 rfl) ?_
  obtain ⟨b1, eb1, h⟩ := bd_inv h
  obtain ⟨rb1, kb1⟩ := rf_inv eb1
  refine gR_5_3 C k0 (C.w wd_1_203) rb1 (dk kX7_addCustomer 1 rfl) ?_
  obtain ⟨x3, eq2, h⟩ := bd_inv h
  refine g_callV C E.2 (rest := []) 0 (ct_X5_whyNotNewCustomer kb1 eq2) wd_4_83 mm_X5_whyNotNewCustomer ⟨rfl, by decide, by decide, by decide⟩ rfl (by decide) kb1 (by decide) rfl rfl (Nat.le_of_ble_eq_true rfl) (by decide) (dk kX7_addCustomer 2 rfl) ?_
  obtain ⟨q4, eq4, h⟩ := bd_inv h
  refine g_callS C E.2 (rest := []) 1 (ct_X7_refuse  eq4) wd_3_103 mm_X7_refuse ⟨by decide, by decide, by decide⟩ rfl (by decide) rfl (Nat.le_of_ble_eq_true rfl) (by decide) (dk kX7_addCustomer 3 rfl) ?_
  refine g_aload_n C (i := 0) 0 rfl rfl (dk kX7_addCustomer 4 rfl) ?_
  obtain ⟨μ6, eq5, h⟩ := bd_inv h
  refine g_callV C E.2 (rest := []) 0 (ct_X7_save k0 eq5) wd_2_83 mm_X7_save ⟨rfl, by decide, by decide, by decide⟩ rfl (by decide) k0 (by decide) rfl rfl (Nat.le_of_ble_eq_true rfl) (by decide) (dk kX7_addCustomer 5 rfl) ?_
  refine g_aload_n C (i := 0) 0 rfl rfl (dk kX7_addCustomer 6 rfl) ?_
  obtain ⟨b7, eb7, h⟩ := bd_inv h
  obtain ⟨rb7, kb7⟩ := rf_inv eb7
  refine gR_5_3 C k0 (C.w wd_1_203) rb7 (dk kX7_addCustomer 7 rfl) ?_
  obtain ⟨q8, eq8, h⟩ := bd_inv h
  obtain ⟨x10, ex10, h⟩ := lt_inv h
  obtain ⟨μ9, eμ9, h⟩ := lt_inv h
  rw [show q8 = (x10, μ9) from by rw [ex10, eμ9]] at eq8
  refine g_callV C E.2 (rest := []) 0 (ct_X5_newCustomer kb7 eq8) wd_4_84 mm_X5_newCustomer ⟨rfl, by decide, by decide, by decide⟩ rfl (by decide) kb7 (by decide) rfl rfl (Nat.le_of_ble_eq_true rfl) (by decide) (dk kX7_addCustomer 8 rfl) ?_
  obtain ⟨h8, h9⟩ := Prod.mk.inj (Option.some.inj h)
  subst h8
  subst h9
  exact g_iret C E rfl rfl (Nat.le_refl 0) (Nat.le_refl 0) (dk kX7_addCustomer 9 rfl)
theorem ct_X7_addCustomer {l : Launch} {Z : ZZ} {μ : Mm} {a0 : Nat} {r : Int32} {μ' : Mm} (k0 : (zk Z a0).1 = 5) (h : f_X7_addCustomer (zk Z) μ a0 = some (r, μ')) : CtM l Z false yX7_addCustomer cX7_addCustomer 1 (some .int) 4 0 0 [.ref (za Z a0)] μ (some (.int r)) Z μ' := ct_of rfl rfl (Nat.le_of_ble_eq_true rfl) (fun X C E => t_X7_addCustomer μ a0 r μ' k0 h C E)

def qX7_addLabel : List (Nat × Instr × Nat) := [(0, .aload_n 0, 1), (1, .getfield 28, 3), (4, .iload_n 1, 1), (5, .iload_n 2, 1), (6, .invokevirtual 53, 3), (9, .invokestatic 36, 3), (12, .aload_n 0, 1), (13, .invokevirtual 40, 3), (16, .aload_n 0, 1), (17, .getfield 28, 3), (20, .iload_n 1, 1), (21, .iload_n 2, 1), (22, .invokevirtual 56, 3), (25, .ireturn, 1)]
theorem kX7_addLabel : ∀ q ∈ qX7_addLabel, decode cX7_addLabel q.1 = .ok q.2 := by decide +kernel
def f_X7_addLabel (K : Nat → Nat × Nat) (μ : Mm) (a0 : Nat) (a1 : Int32) (a2 : Int32) : Option (Int32 × Mm) :=
  bd (rf K μ a0 3 4) fun b1 => bd (f_X5_whyNotNewLabel K μ b1 a1 a2) fun x3 => bd (f_X7_refuse x3) fun q4 => bd (f_X7_save K μ a0) fun μ6 => bd (rf K μ6 a0 3 4) fun b7 => bd (f_X5_newLabel K μ6 b7 a1 a2) fun q8 => lt1 q8.1 fun x10 => lt1 q8.2 fun μ9 => some (x10, μ9)
set_option maxRecDepth 100000 in
set_option maxHeartbeats 4000000 in
theorem t_X7_addLabel {l : Launch} {Z : ZZ} {X : XX} (μ : Mm) (a0 : Nat) (a1 : Int32) (a2 : Int32) (r : Int32) (μ' : Mm) (k0 : (zk Z a0).1 = 5) (h : f_X7_addLabel (zk Z) μ a0 a1 a2 = some (r, μ')) (C : Cx l Z false X cX7_addLabel RX7 3 (some .int)) (E : Ex Z X 4 0 0 (some (.int r)) Z μ') : G Z X 3 0 0 0 [(0, .ref (za Z a0)), (1, .int a1), (2, .int a2)] [] μ := by
  unfold f_X7_addLabel at h
  refine g_aload_n C (i := 0) 0 rfl rfl (dk kX7_addLabel 0 rfl) ?_
  obtain ⟨b1, eb1, h⟩ := bd_inv h
  obtain ⟨rb1, kb1⟩ := rf_inv eb1
  refine gR_5_3 C k0 (C.w wd_1_203) rb1 (dk kX7_addLabel 1 rfl) ?_
  refine g_iload_n C (i := 1) 1 rfl rfl (dk kX7_addLabel 2 rfl) ?_
  refine g_iload_n C (i := 2) 2 rfl rfl (dk kX7_addLabel 3 rfl) ?_
  obtain ⟨x3, eq2, h⟩ := bd_inv h
  refine g_callV C E.2 (rest := []) 2 (ct_X5_whyNotNewLabel kb1 eq2) wd_4_46 mm_X5_whyNotNewLabel ⟨rfl, by decide, by decide, by decide⟩ rfl (by decide) kb1 (by decide) rfl rfl (Nat.le_of_ble_eq_true rfl) (by decide) (dk kX7_addLabel 4 rfl) ?_
  obtain ⟨q4, eq4, h⟩ := bd_inv h
  refine g_callS C E.2 (rest := []) 1 (ct_X7_refuse  eq4) wd_3_103 mm_X7_refuse ⟨by decide, by decide, by decide⟩ rfl (by decide) rfl (Nat.le_of_ble_eq_true rfl) (by decide) (dk kX7_addLabel 5 rfl) ?_
  refine g_aload_n C (i := 0) 0 rfl rfl (dk kX7_addLabel 6 rfl) ?_
  obtain ⟨μ6, eq5, h⟩ := bd_inv h
  refine g_callV C E.2 (rest := []) 0 (ct_X7_save k0 eq5) wd_2_83 mm_X7_save ⟨rfl, by decide, by decide, by decide⟩ rfl (by decide) k0 (by decide) rfl rfl (Nat.le_of_ble_eq_true rfl) (by decide) (dk kX7_addLabel 7 rfl) ?_
  refine g_aload_n C (i := 0) 0 rfl rfl (dk kX7_addLabel 8 rfl) ?_
  obtain ⟨b7, eb7, h⟩ := bd_inv h
  obtain ⟨rb7, kb7⟩ := rf_inv eb7
  refine gR_5_3 C k0 (C.w wd_1_203) rb7 (dk kX7_addLabel 9 rfl) ?_
  refine g_iload_n C (i := 1) 1 rfl rfl (dk kX7_addLabel 10 rfl) ?_
  refine g_iload_n C (i := 2) 2 rfl rfl (dk kX7_addLabel 11 rfl) ?_
  obtain ⟨q8, eq8, h⟩ := bd_inv h
  obtain ⟨x10, ex10, h⟩ := lt_inv h
  obtain ⟨μ9, eμ9, h⟩ := lt_inv h
  rw [show q8 = (x10, μ9) from by rw [ex10, eμ9]] at eq8
  refine g_callV C E.2 (rest := []) 2 (ct_X5_newLabel kb7 eq8) wd_4_47 mm_X5_newLabel ⟨rfl, by decide, by decide, by decide⟩ rfl (by decide) kb7 (by decide) rfl rfl (Nat.le_of_ble_eq_true rfl) (by decide) (dk kX7_addLabel 12 rfl) ?_
  obtain ⟨h8, h9⟩ := Prod.mk.inj (Option.some.inj h)
  subst h8
  subst h9
  exact g_iret C E rfl rfl (Nat.le_refl 0) (Nat.le_refl 0) (dk kX7_addLabel 13 rfl)
theorem ct_X7_addLabel {l : Launch} {Z : ZZ} {μ : Mm} {a0 : Nat} {a1 : Int32} {a2 : Int32} {r : Int32} {μ' : Mm} (k0 : (zk Z a0).1 = 5) (h : f_X7_addLabel (zk Z) μ a0 a1 a2 = some (r, μ')) : CtM l Z false yX7_addLabel cX7_addLabel 3 (some .int) 4 0 0 [.ref (za Z a0), .int a1, .int a2] μ (some (.int r)) Z μ' := ct_of rfl rfl (Nat.le_of_ble_eq_true rfl) (fun X C E => t_X7_addLabel μ a0 a1 a2 r μ' k0 h C E)

def qX7_begin : List (Nat × Instr × Nat) := [(0, .aload_n 0, 1), (1, .getfield 28, 3), (4, .iload_n 1, 1), (5, .invokevirtual 32, 3), (8, .invokestatic 36, 3), (11, .aload_n 0, 1), (12, .invokevirtual 40, 3), (15, .aload_n 0, 1), (16, .getfield 28, 3), (19, .iload_n 1, 1), (20, .invokevirtual 43, 3), (23, .ireturn, 1)]
theorem kX7_begin : ∀ q ∈ qX7_begin, decode cX7_begin q.1 = .ok q.2 := by decide +kernel
def f_X7_begin (K : Nat → Nat × Nat) (μ : Mm) (a0 : Nat) (a1 : Int32) : Option (Int32 × Mm) :=
  bd (rf K μ a0 3 4) fun b1 => bd (f_X5_whyNotNewHead b1 a1) fun x3 => bd (f_X7_refuse x3) fun q4 => bd (f_X7_save K μ a0) fun μ6 => bd (rf K μ6 a0 3 4) fun b7 => bd (f_X5_newHead K μ6 b7 a1) fun q8 => lt1 q8.1 fun x10 => lt1 q8.2 fun μ9 => some (x10, μ9)
set_option maxRecDepth 100000 in
set_option maxHeartbeats 4000000 in
theorem t_X7_begin {l : Launch} {Z : ZZ} {X : XX} (μ : Mm) (a0 : Nat) (a1 : Int32) (r : Int32) (μ' : Mm) (k0 : (zk Z a0).1 = 5) (h : f_X7_begin (zk Z) μ a0 a1 = some (r, μ')) (C : Cx l Z false X cX7_begin RX7 2 (some .int)) (E : Ex Z X 4 0 0 (some (.int r)) Z μ') : G Z X 2 0 0 0 [(0, .ref (za Z a0)), (1, .int a1)] [] μ := by
  unfold f_X7_begin at h
  refine g_aload_n C (i := 0) 0 rfl rfl (dk kX7_begin 0 rfl) ?_
  obtain ⟨b1, eb1, h⟩ := bd_inv h
  obtain ⟨rb1, kb1⟩ := rf_inv eb1
  refine gR_5_3 C k0 (C.w wd_1_203) rb1 (dk kX7_begin 1 rfl) ?_
  refine g_iload_n C (i := 1) 1 rfl rfl (dk kX7_begin 2 rfl) ?_
  obtain ⟨x3, eq2, h⟩ := bd_inv h
  refine g_callV C E.2 (rest := []) 1 (ct_X5_whyNotNewHead kb1 eq2) wd_4_27 mm_X5_whyNotNewHead ⟨rfl, by decide, by decide, by decide⟩ rfl (by decide) kb1 (by decide) rfl rfl (Nat.le_of_ble_eq_true rfl) (by decide) (dk kX7_begin 3 rfl) ?_
  obtain ⟨q4, eq4, h⟩ := bd_inv h
  refine g_callS C E.2 (rest := []) 1 (ct_X7_refuse  eq4) wd_3_103 mm_X7_refuse ⟨by decide, by decide, by decide⟩ rfl (by decide) rfl (Nat.le_of_ble_eq_true rfl) (by decide) (dk kX7_begin 4 rfl) ?_
  refine g_aload_n C (i := 0) 0 rfl rfl (dk kX7_begin 5 rfl) ?_
  obtain ⟨μ6, eq5, h⟩ := bd_inv h
  refine g_callV C E.2 (rest := []) 0 (ct_X7_save k0 eq5) wd_2_83 mm_X7_save ⟨rfl, by decide, by decide, by decide⟩ rfl (by decide) k0 (by decide) rfl rfl (Nat.le_of_ble_eq_true rfl) (by decide) (dk kX7_begin 6 rfl) ?_
  refine g_aload_n C (i := 0) 0 rfl rfl (dk kX7_begin 7 rfl) ?_
  obtain ⟨b7, eb7, h⟩ := bd_inv h
  obtain ⟨rb7, kb7⟩ := rf_inv eb7
  refine gR_5_3 C k0 (C.w wd_1_203) rb7 (dk kX7_begin 8 rfl) ?_
  refine g_iload_n C (i := 1) 1 rfl rfl (dk kX7_begin 9 rfl) ?_
  obtain ⟨q8, eq8, h⟩ := bd_inv h
  obtain ⟨x10, ex10, h⟩ := lt_inv h
  obtain ⟨μ9, eμ9, h⟩ := lt_inv h
  rw [show q8 = (x10, μ9) from by rw [ex10, eμ9]] at eq8
  refine g_callV C E.2 (rest := []) 1 (ct_X5_newHead kb7 eq8) wd_4_28 mm_X5_newHead ⟨rfl, by decide, by decide, by decide⟩ rfl (by decide) kb7 (by decide) rfl rfl (Nat.le_of_ble_eq_true rfl) (by decide) (dk kX7_begin 10 rfl) ?_
  obtain ⟨h8, h9⟩ := Prod.mk.inj (Option.some.inj h)
  subst h8
  subst h9
  exact g_iret C E rfl rfl (Nat.le_refl 0) (Nat.le_refl 0) (dk kX7_begin 11 rfl)
theorem ct_X7_begin {l : Launch} {Z : ZZ} {μ : Mm} {a0 : Nat} {a1 : Int32} {r : Int32} {μ' : Mm} (k0 : (zk Z a0).1 = 5) (h : f_X7_begin (zk Z) μ a0 a1 = some (r, μ')) : CtM l Z false yX7_begin cX7_begin 2 (some .int) 4 0 0 [.ref (za Z a0), .int a1] μ (some (.int r)) Z μ' := ct_of rfl rfl (Nat.le_of_ble_eq_true rfl) (fun X C E => t_X7_begin μ a0 a1 r μ' k0 h C E)

def qX7_bestOffset : List (Nat × Instr × Nat) := [(0, .aload_n 0, 1), (1, .getfield 28, 3), (4, .iload_n 1, 1), (5, .iload_n 2, 1), (6, .invokevirtual 160, 3), (9, .invokestatic 36, 3), (12, .aload_n 0, 1), (13, .getfield 28, 3), (16, .iload_n 1, 1), (17, .iload_n 2, 1), (18, .invokevirtual 163, 3), (21, .ireturn, 1)]
theorem kX7_bestOffset : ∀ q ∈ qX7_bestOffset, decode cX7_bestOffset q.1 = .ok q.2 := by decide +kernel
def f_X7_bestOffset (K : Nat → Nat × Nat) (μ : Mm) (a0 : Nat) (a1 : Int32) (a2 : Int32) : Option (Int32 × Mm) :=
  bd (rf K μ a0 3 4) fun b1 => bd (f_X5_whyNotPair K μ b1 a1 a2) fun x3 => bd (f_X7_refuse x3) fun q4 => bd (rf K μ a0 3 4) fun b5 => bd (f_X5_bestPlace K μ b5 a1 a2) fun q6 => lt1 q6.1 fun x8 => lt1 q6.2 fun μ7 => some (x8, μ7)
set_option maxRecDepth 100000 in
set_option maxHeartbeats 4000000 in
theorem t_X7_bestOffset {l : Launch} {Z : ZZ} {X : XX} (μ : Mm) (a0 : Nat) (a1 : Int32) (a2 : Int32) (r : Int32) (μ' : Mm) (k0 : (zk Z a0).1 = 5) (h : f_X7_bestOffset (zk Z) μ a0 a1 a2 = some (r, μ')) (C : Cx l Z false X cX7_bestOffset RX7 3 (some .int)) (E : Ex Z X 4 0 0 (some (.int r)) Z μ') : G Z X 3 0 0 0 [(0, .ref (za Z a0)), (1, .int a1), (2, .int a2)] [] μ := by
  unfold f_X7_bestOffset at h
  refine g_aload_n C (i := 0) 0 rfl rfl (dk kX7_bestOffset 0 rfl) ?_
  obtain ⟨b1, eb1, h⟩ := bd_inv h
  obtain ⟨rb1, kb1⟩ := rf_inv eb1
  refine gR_5_3 C k0 (C.w wd_1_203) rb1 (dk kX7_bestOffset 1 rfl) ?_
  refine g_iload_n C (i := 1) 1 rfl rfl (dk kX7_bestOffset 2 rfl) ?_
  refine g_iload_n C (i := 2) 2 rfl rfl (dk kX7_bestOffset 3 rfl) ?_
  obtain ⟨x3, eq2, h⟩ := bd_inv h
  refine g_callV C E.2 (rest := []) 2 (ct_X5_whyNotPair kb1 eq2) wd_4_203 mm_X5_whyNotPair ⟨rfl, by decide, by decide, by decide⟩ rfl (by decide) kb1 (by decide) rfl rfl (Nat.le_of_ble_eq_true rfl) (by decide) (dk kX7_bestOffset 4 rfl) ?_
  obtain ⟨q4, eq4, h⟩ := bd_inv h
  refine g_callS C E.2 (rest := []) 1 (ct_X7_refuse  eq4) wd_3_103 mm_X7_refuse ⟨by decide, by decide, by decide⟩ rfl (by decide) rfl (Nat.le_of_ble_eq_true rfl) (by decide) (dk kX7_bestOffset 5 rfl) ?_
  refine g_aload_n C (i := 0) 0 rfl rfl (dk kX7_bestOffset 6 rfl) ?_
  obtain ⟨b5, eb5, h⟩ := bd_inv h
  obtain ⟨rb5, kb5⟩ := rf_inv eb5
  refine gR_5_3 C k0 (C.w wd_1_203) rb5 (dk kX7_bestOffset 7 rfl) ?_
  refine g_iload_n C (i := 1) 1 rfl rfl (dk kX7_bestOffset 8 rfl) ?_
  refine g_iload_n C (i := 2) 2 rfl rfl (dk kX7_bestOffset 9 rfl) ?_
  obtain ⟨q6, eq6, h⟩ := bd_inv h
  obtain ⟨x8, ex8, h⟩ := lt_inv h
  obtain ⟨μ7, eμ7, h⟩ := lt_inv h
  rw [show q6 = (x8, μ7) from by rw [ex8, eμ7]] at eq6
  refine g_callV C E.2 (rest := []) 2 (ct_X5_bestPlace kb5 eq6) wd_4_17 mm_X5_bestPlace ⟨rfl, by decide, by decide, by decide⟩ rfl (by decide) kb5 (by decide) rfl rfl (Nat.le_of_ble_eq_true rfl) (by decide) (dk kX7_bestOffset 10 rfl) ?_
  obtain ⟨h8, h9⟩ := Prod.mk.inj (Option.some.inj h)
  subst h8
  subst h9
  exact g_iret C E rfl rfl (Nat.le_refl 0) (Nat.le_refl 0) (dk kX7_bestOffset 11 rfl)
theorem ct_X7_bestOffset {l : Launch} {Z : ZZ} {μ : Mm} {a0 : Nat} {a1 : Int32} {a2 : Int32} {r : Int32} {μ' : Mm} (k0 : (zk Z a0).1 = 5) (h : f_X7_bestOffset (zk Z) μ a0 a1 a2 = some (r, μ')) : CtM l Z false yX7_bestOffset cX7_bestOffset 3 (some .int) 4 0 0 [.ref (za Z a0), .int a1, .int a2] μ (some (.int r)) Z μ' := ct_of rfl rfl (Nat.le_of_ble_eq_true rfl) (fun X C E => t_X7_bestOffset μ a0 a1 a2 r μ' k0 h C E)

def qX7_clearCommands : List (Nat × Instr × Nat) := [(0, .aload_n 0, 1), (1, .getfield 10, 3), (4, .invokevirtual 182, 3), (7, .ireturn, 1)]
theorem kX7_clearCommands : ∀ q ∈ qX7_clearCommands, decode cX7_clearCommands q.1 = .ok q.2 := by decide +kernel
def f_X7_clearCommands (K : Nat → Nat × Nat) (μ : Mm) (a0 : Nat) : Option (Int32 × Mm) :=
  bd (rf K μ a0 0 0) fun b1 => bd (f_X1_empty K μ b1) fun q2 => lt1 q2.1 fun x4 => lt1 q2.2 fun μ3 => some (x4, μ3)
set_option maxRecDepth 100000 in
set_option maxHeartbeats 4000000 in
theorem t_X7_clearCommands {l : Launch} {Z : ZZ} {X : XX} (μ : Mm) (a0 : Nat) (r : Int32) (μ' : Mm) (k0 : (zk Z a0).1 = 5) (h : f_X7_clearCommands (zk Z) μ a0 = some (r, μ')) (C : Cx l Z false X cX7_clearCommands RX7 1 (some .int)) (E : Ex Z X 1 0 0 (some (.int r)) Z μ') : G Z X 1 0 0 0 [(0, .ref (za Z a0))] [] μ := by
  unfold f_X7_clearCommands at h
  refine g_aload_n C (i := 0) 0 rfl rfl (dk kX7_clearCommands 0 rfl) ?_
  obtain ⟨b1, eb1, h⟩ := bd_inv h
  obtain ⟨rb1, kb1⟩ := rf_inv eb1
  refine gR_5_0 C k0 (C.w wd_1_200) rb1 (dk kX7_clearCommands 1 rfl) ?_
  obtain ⟨q2, eq2, h⟩ := bd_inv h
  obtain ⟨x4, ex4, h⟩ := lt_inv h
  obtain ⟨μ3, eμ3, h⟩ := lt_inv h
  rw [show q2 = (x4, μ3) from by rw [ex4, eμ3]] at eq2
  refine g_callV C E.2 (rest := []) 0 (ct_X1_empty kb1 eq2) wd_1_225 mm_X1_empty ⟨rfl, by decide, by decide, by decide⟩ rfl (by decide) kb1 (by decide) rfl rfl (Nat.le_of_ble_eq_true rfl) (by decide) (dk kX7_clearCommands 2 rfl) ?_
  obtain ⟨h8, h9⟩ := Prod.mk.inj (Option.some.inj h)
  subst h8
  subst h9
  exact g_iret C E rfl rfl (Nat.le_refl 0) (Nat.le_refl 0) (dk kX7_clearCommands 3 rfl)
theorem ct_X7_clearCommands {l : Launch} {Z : ZZ} {μ : Mm} {a0 : Nat} {r : Int32} {μ' : Mm} (k0 : (zk Z a0).1 = 5) (h : f_X7_clearCommands (zk Z) μ a0 = some (r, μ')) : CtM l Z false yX7_clearCommands cX7_clearCommands 1 (some .int) 1 0 0 [.ref (za Z a0)] μ (some (.int r)) Z μ' := ct_of rfl rfl (Nat.le_of_ble_eq_true rfl) (fun X C E => t_X7_clearCommands μ a0 r μ' k0 h C E)

def qX7_cool : List (Nat × Instr × Nat) := [(0, .aload_n 0, 1), (1, .getfield 28, 3), (4, .iload_n 1, 1), (5, .invokevirtual 72, 3), (8, .invokestatic 36, 3), (11, .aload_n 0, 1), (12, .invokevirtual 40, 3), (15, .aload_n 0, 1), (16, .getfield 28, 3), (19, .iload_n 1, 1), (20, .invokevirtual 75, 3), (23, .ireturn, 1)]
theorem kX7_cool : ∀ q ∈ qX7_cool, decode cX7_cool q.1 = .ok q.2 := by decide +kernel
def f_X7_cool (K : Nat → Nat × Nat) (μ : Mm) (a0 : Nat) (a1 : Int32) : Option (Int32 × Mm) :=
  bd (rf K μ a0 3 4) fun b1 => bd (f_X5_whyNotPassLines b1 a1) fun x3 => bd (f_X7_refuse x3) fun q4 => bd (f_X7_save K μ a0) fun μ6 => bd (rf K μ6 a0 3 4) fun b7 => bd (f_X5_passLines K μ6 b7 a1) fun q8 => lt1 q8.1 fun x10 => lt1 q8.2 fun μ9 => some (x10, μ9)
set_option maxRecDepth 100000 in
set_option maxHeartbeats 4000000 in
theorem t_X7_cool {l : Launch} {Z : ZZ} {X : XX} (μ : Mm) (a0 : Nat) (a1 : Int32) (r : Int32) (μ' : Mm) (k0 : (zk Z a0).1 = 5) (h : f_X7_cool (zk Z) μ a0 a1 = some (r, μ')) (C : Cx l Z false X cX7_cool RX7 2 (some .int)) (E : Ex Z X 4 0 0 (some (.int r)) Z μ') : G Z X 2 0 0 0 [(0, .ref (za Z a0)), (1, .int a1)] [] μ := by
  unfold f_X7_cool at h
  refine g_aload_n C (i := 0) 0 rfl rfl (dk kX7_cool 0 rfl) ?_
  obtain ⟨b1, eb1, h⟩ := bd_inv h
  obtain ⟨rb1, kb1⟩ := rf_inv eb1
  refine gR_5_3 C k0 (C.w wd_1_203) rb1 (dk kX7_cool 1 rfl) ?_
  refine g_iload_n C (i := 1) 1 rfl rfl (dk kX7_cool 2 rfl) ?_
  obtain ⟨x3, eq2, h⟩ := bd_inv h
  refine g_callV C E.2 (rest := []) 1 (ct_X5_whyNotPassLines kb1 eq2) wd_4_74 mm_X5_whyNotPassLines ⟨rfl, by decide, by decide, by decide⟩ rfl (by decide) kb1 (by decide) rfl rfl (Nat.le_of_ble_eq_true rfl) (by decide) (dk kX7_cool 3 rfl) ?_
  obtain ⟨q4, eq4, h⟩ := bd_inv h
  refine g_callS C E.2 (rest := []) 1 (ct_X7_refuse  eq4) wd_3_103 mm_X7_refuse ⟨by decide, by decide, by decide⟩ rfl (by decide) rfl (Nat.le_of_ble_eq_true rfl) (by decide) (dk kX7_cool 4 rfl) ?_
  refine g_aload_n C (i := 0) 0 rfl rfl (dk kX7_cool 5 rfl) ?_
  obtain ⟨μ6, eq5, h⟩ := bd_inv h
  refine g_callV C E.2 (rest := []) 0 (ct_X7_save k0 eq5) wd_2_83 mm_X7_save ⟨rfl, by decide, by decide, by decide⟩ rfl (by decide) k0 (by decide) rfl rfl (Nat.le_of_ble_eq_true rfl) (by decide) (dk kX7_cool 6 rfl) ?_
  refine g_aload_n C (i := 0) 0 rfl rfl (dk kX7_cool 7 rfl) ?_
  obtain ⟨b7, eb7, h⟩ := bd_inv h
  obtain ⟨rb7, kb7⟩ := rf_inv eb7
  refine gR_5_3 C k0 (C.w wd_1_203) rb7 (dk kX7_cool 8 rfl) ?_
  refine g_iload_n C (i := 1) 1 rfl rfl (dk kX7_cool 9 rfl) ?_
  obtain ⟨q8, eq8, h⟩ := bd_inv h
  obtain ⟨x10, ex10, h⟩ := lt_inv h
  obtain ⟨μ9, eμ9, h⟩ := lt_inv h
  rw [show q8 = (x10, μ9) from by rw [ex10, eμ9]] at eq8
  refine g_callV C E.2 (rest := []) 1 (ct_X5_passLines kb7 eq8) wd_4_75 mm_X5_passLines ⟨rfl, by decide, by decide, by decide⟩ rfl (by decide) kb7 (by decide) rfl rfl (Nat.le_of_ble_eq_true rfl) (by decide) (dk kX7_cool 10 rfl) ?_
  obtain ⟨h8, h9⟩ := Prod.mk.inj (Option.some.inj h)
  subst h8
  subst h9
  exact g_iret C E rfl rfl (Nat.le_refl 0) (Nat.le_refl 0) (dk kX7_cool 11 rfl)
theorem ct_X7_cool {l : Launch} {Z : ZZ} {μ : Mm} {a0 : Nat} {a1 : Int32} {r : Int32} {μ' : Mm} (k0 : (zk Z a0).1 = 5) (h : f_X7_cool (zk Z) μ a0 a1 = some (r, μ')) : CtM l Z false yX7_cool cX7_cool 2 (some .int) 4 0 0 [.ref (za Z a0), .int a1] μ (some (.int r)) Z μ' := ct_of rfl rfl (Nat.le_of_ble_eq_true rfl) (fun X C E => t_X7_cool μ a0 a1 r μ' k0 h C E)

def qX7_customer : List (Nat × Instr × Nat) := [(0, .aload_n 0, 1), (1, .getfield 28, 3), (4, .iload_n 1, 1), (5, .iload_n 2, 1), (6, .invokevirtual 131, 3), (9, .invokestatic 36, 3), (12, .aload_n 0, 1), (13, .getfield 28, 3), (16, .getfield 134, 3), (19, .iload_n 1, 1), (20, .aaload, 1), (21, .iload_n 2, 1), (22, .invokevirtual 138, 3), (25, .ireturn, 1)]
theorem kX7_customer : ∀ q ∈ qX7_customer, decode cX7_customer q.1 = .ok q.2 := by decide +kernel
def f_X7_customer (K : Nat → Nat × Nat) (μ : Mm) (a0 : Nat) (a1 : Int32) (a2 : Int32) : Option (Int32) :=
  bd (rf K μ a0 3 4) fun b1 => bd (f_X5_whyNotCustomerValue K μ b1 a1 a2) fun x3 => bd (f_X7_refuse x3) fun q4 => bd (rf K μ a0 3 4) fun b5 => bd (rf K μ b5 5 9) fun b6 => gd (inb a1 (K b6).2) <| bd (rf K μ b6 (ix a1) 1) fun b8 => bd (f_X2_value K μ b8 a2) fun x10 => some x10
set_option maxRecDepth 100000 in
set_option maxHeartbeats 4000000 in
theorem t_X7_customer {l : Launch} {Z : ZZ} {X : XX} (μ : Mm) (a0 : Nat) (a1 : Int32) (a2 : Int32) (r : Int32) (k0 : (zk Z a0).1 = 5) (h : f_X7_customer (zk Z) μ a0 a1 a2 = some r) (C : Cx l Z false X cX7_customer RX7 3 (some .int)) (E : Ex Z X 2 0 0 (some (.int r)) Z μ) : G Z X 3 0 0 0 [(0, .ref (za Z a0)), (1, .int a1), (2, .int a2)] [] μ := by
  unfold f_X7_customer at h
  refine g_aload_n C (i := 0) 0 rfl rfl (dk kX7_customer 0 rfl) ?_
  obtain ⟨b1, eb1, h⟩ := bd_inv h
  obtain ⟨rb1, kb1⟩ := rf_inv eb1
  refine gR_5_3 C k0 (C.w wd_1_203) rb1 (dk kX7_customer 1 rfl) ?_
  refine g_iload_n C (i := 1) 1 rfl rfl (dk kX7_customer 2 rfl) ?_
  refine g_iload_n C (i := 2) 2 rfl rfl (dk kX7_customer 3 rfl) ?_
  obtain ⟨x3, eq2, h⟩ := bd_inv h
  refine g_callV C E.2 (rest := []) 2 (ct_X5_whyNotCustomerValue kb1 eq2) wd_4_163 mm_X5_whyNotCustomerValue ⟨rfl, by decide, by decide, by decide⟩ rfl (by decide) kb1 (by decide) rfl rfl (Nat.le_of_ble_eq_true rfl) (by decide) (dk kX7_customer 4 rfl) ?_
  obtain ⟨q4, eq4, h⟩ := bd_inv h
  refine g_callS C E.2 (rest := []) 1 (ct_X7_refuse  eq4) wd_3_103 mm_X7_refuse ⟨by decide, by decide, by decide⟩ rfl (by decide) rfl (Nat.le_of_ble_eq_true rfl) (by decide) (dk kX7_customer 5 rfl) ?_
  refine g_aload_n C (i := 0) 0 rfl rfl (dk kX7_customer 6 rfl) ?_
  obtain ⟨b5, eb5, h⟩ := bd_inv h
  obtain ⟨rb5, kb5⟩ := rf_inv eb5
  refine gR_5_3 C k0 (C.w wd_1_203) rb5 (dk kX7_customer 7 rfl) ?_
  obtain ⟨b6, eb6, h⟩ := bd_inv h
  obtain ⟨rb6, kb6⟩ := rf_inv eb6
  refine gRN_4_5 C kb5 (nf_28 C) rb6 (dk kX7_customer 8 rfl) ?_
  refine g_iload_n C (i := 1) 1 rfl rfl (dk kX7_customer 9 rfl) ?_
  obtain ⟨c7, h⟩ := gd_inv h
  obtain ⟨b8, eb8, h⟩ := bd_inv h
  obtain ⟨rb8, kb8⟩ := rf_inv eb8
  refine gA_9 C kb6 c7 rb8 (dk kX7_customer 10 rfl) ?_
  refine g_iload_n C (i := 2) 2 rfl rfl (dk kX7_customer 11 rfl) ?_
  obtain ⟨x10, eq9, h⟩ := bd_inv h
  refine g_callV C E.2 (rest := []) 1 (ct_X2_value kb8 eq9) wd_4_13 mm_X2_value ⟨rfl, by decide, by decide, by decide⟩ rfl (by decide) kb8 (by decide) rfl rfl (Nat.le_of_ble_eq_true rfl) (by decide) (dk kX7_customer 12 rfl) ?_
  have h9 := Option.some.inj h
  subst h9
  exact g_iret C E rfl rfl (Nat.le_refl 0) (Nat.le_refl 0) (dk kX7_customer 13 rfl)
theorem ct_X7_customer {l : Launch} {Z : ZZ} {μ : Mm} {a0 : Nat} {a1 : Int32} {a2 : Int32} {r : Int32} (k0 : (zk Z a0).1 = 5) (h : f_X7_customer (zk Z) μ a0 a1 a2 = some r) : CtM l Z false yX7_customer cX7_customer 3 (some .int) 2 0 0 [.ref (za Z a0), .int a1, .int a2] μ (some (.int r)) Z μ := ct_of rfl rfl (Nat.le_of_ble_eq_true rfl) (fun X C E => t_X7_customer μ a0 a1 a2 r k0 h C E)

def qX7_mix : List (Nat × Instr × Nat) := [(0, .ldc2_w 247, 3), (3, .lload_n 0, 1), (4, .lmul, 1), (5, .lload_n 2, 1), (6, .ladd, 1), (7, .lreturn, 1)]
theorem kX7_mix : ∀ q ∈ qX7_mix, decode cX7_mix q.1 = .ok q.2 := by decide +kernel
def f_X7_mix (a0 : Int64) (a2 : Int64) : Option (Int64) :=
  some ((31 * a0) + a2)
set_option maxRecDepth 100000 in
set_option maxHeartbeats 4000000 in
theorem t_X7_mix {l : Launch} {Z : ZZ} {X : XX} (μ : Mm) (a0 : Int64) (a2 : Int64) (r : Int64)  (h : f_X7_mix a0 a2 = some r) (C : Cx l Z false X cX7_mix RX7 4 (some .long)) (E : Ex Z X 0 0 0 (some (.long r)) Z μ) : G Z X 4 0 0 0 [(0, .long a0), (2, .long a2)] [] μ := by
  unfold f_X7_mix at h
  refine g_ldc2 C (v := 31) (C.w wd_3_98) (dk kX7_mix 0 rfl) ?_
  refine g_lload_n C (i := 0) 0 rfl rfl (dk kX7_mix 1 rfl) ?_
  refine g_lmul C (dk kX7_mix 2 rfl) ?_
  refine g_lload_n C (i := 2) 1 rfl rfl (dk kX7_mix 3 rfl) ?_
  refine g_ladd C (dk kX7_mix 4 rfl) ?_
  have h9 := Option.some.inj h
  subst h9
  exact g_lret C E (Nat.le_refl 0) (Nat.le_refl 0) (dk kX7_mix 5 rfl)
theorem ct_X7_mix {l : Launch} {Z : ZZ} {μ : Mm} {a0 : Int64} {a2 : Int64} {r : Int64}  (h : f_X7_mix a0 a2 = some r) : CtM l Z false yX7_mix cX7_mix 4 (some .long) 0 0 0 [.long a0, .long a2] μ (some (.long r)) Z μ := ct_of rfl rfl (Nat.le_of_ble_eq_true rfl) (fun X C E => t_X7_mix μ a0 a2 r  h C E)

def qX7_whole : List (Nat × Instr × Nat) := [(0, .iload_n 1, 1), (1, .ifCond .lt 9, 3), (4, .iload_n 1, 1), (5, .bipush 18, 2), (7, .if_icmp .lt 7, 3), (10, .iconst 2, 1), (11, .goto 4, 3), (14, .iconst 0, 1), (15, .invokestatic 36, 3), (18, .iload_n 1, 1), (19, .bipush 17, 2), (21, .if_icmp .ne 13, 3), (24, .aload_n 0, 1), (25, .getfield 10, 3), (28, .getfield 141, 3), (31, .goto 11, 3), (34, .aload_n 0, 1), (35, .getfield 28, 3), (38, .iload_n 1, 1), (39, .invokevirtual 145, 3), (42, .ireturn, 1)]
theorem kX7_whole : ∀ q ∈ qX7_whole, decode cX7_whole q.1 = .ok q.2 := by decide +kernel
def f_X7_whole (K : Nat → Nat × Nat) (μ : Mm) (a0 : Nat) (a1 : Int32) : Option (Int32) :=
  lt1 (α := Int32) (if a1 < 0 then 2 else (if a1 < 18 then 0 else 2)) fun x1 => bd (f_X7_refuse x1) fun q3 => if a1 = 17 then (bd (rf K μ a0 0 0) fun b8 => some (μ.1 b8 1)) else (bd (rf K μ a0 3 4) fun b5 => bd (f_X5_wholeValue K μ b5 a1) fun x7 => some x7)
set_option maxRecDepth 100000 in
set_option maxHeartbeats 4000000 in
theorem t_X7_whole {l : Launch} {Z : ZZ} {X : XX} (μ : Mm) (a0 : Nat) (a1 : Int32) (r : Int32) (k0 : (zk Z a0).1 = 5) (h : f_X7_whole (zk Z) μ a0 a1 = some r) (C : Cx l Z false X cX7_whole RX7 2 (some .int)) (E : Ex Z X 3 0 0 (some (.int r)) Z μ) : G Z X 2 0 0 0 [(0, .ref (za Z a0)), (1, .int a1)] [] μ := by
  unfold f_X7_whole at h
  refine g_iload_n C (i := 1) 1 rfl rfl (dk kX7_whole 0 rfl) ?_
  obtain ⟨x1, ex1, h⟩ := lt_inv h
  have kj2 : G Z X 2 0 0 15 [(0, .ref (za Z a0)), (1, .int a1)] [.int x1] μ := by
    obtain ⟨q3, eq3, h⟩ := bd_inv h
    refine g_callS C E.2 (rest := []) 1 (ct_X7_refuse  eq3) wd_3_103 mm_X7_refuse ⟨by decide, by decide, by decide⟩ rfl (by decide) rfl (Nat.le_of_ble_eq_true rfl) (by decide) (dk kX7_whole 8 rfl) ?_
    refine g_iload_n C (i := 1) 1 rfl rfl (dk kX7_whole 9 rfl) ?_
    refine g_bipush C (v := 17) (by decide) (dk kX7_whole 10 rfl) ?_
    refine g_icmp_ne C (tgt := 34) (dk kX7_whole 11 rfl) (by decide) (fun c4 => ?_) (fun c4 => ?_)
    · replace h := ite_f h c4
      refine g_aload_n C (i := 0) 0 rfl rfl (dk kX7_whole 16 rfl) ?_
      obtain ⟨b5, eb5, h⟩ := bd_inv h
      obtain ⟨rb5, kb5⟩ := rf_inv eb5
      refine gR_5_3 C k0 (C.w wd_1_203) rb5 (dk kX7_whole 17 rfl) ?_
      refine g_iload_n C (i := 1) 1 rfl rfl (dk kX7_whole 18 rfl) ?_
      obtain ⟨x7, eq6, h⟩ := bd_inv h
      refine g_callV C E.2 (rest := []) 1 (ct_X5_wholeValue kb5 eq6) wd_3_206 mm_X5_wholeValue ⟨rfl, by decide, by decide, by decide⟩ rfl (by decide) kb5 (by decide) rfl rfl (Nat.le_of_ble_eq_true rfl) (by decide) (dk kX7_whole 19 rfl) ?_
      have h9 := Option.some.inj h
      subst h9
      exact g_iret C E rfl rfl (Nat.le_refl 0) (Nat.le_refl 0) (dk kX7_whole 20 rfl)
    · replace h := ite_t h c4
      refine g_aload_n C (i := 0) 0 rfl rfl (dk kX7_whole 12 rfl) ?_
      obtain ⟨b8, eb8, h⟩ := bd_inv h
      obtain ⟨rb8, kb8⟩ := rf_inv eb8
      refine gR_5_0 C k0 (C.w wd_1_200) rb8 (dk kX7_whole 13 rfl) ?_
      refine gIN_0_1 C kb8 (nf_0 C) (dk kX7_whole 14 rfl) ?_
      refine g_goto C (tgt := 42) (dk kX7_whole 15 rfl) (by decide) ?_
      have h9 := Option.some.inj h
      subst h9
      exact g_iret C E rfl rfl (Nat.le_refl 0) (Nat.le_refl 0) (dk kX7_whole 20 rfl)
  clear h
  refine g_if_lt C (tgt := 10) (dk kX7_whole 1 rfl) (by decide) (fun c9 => ?_) (fun c9 => ?_)
  · refine g_iconst C (v := 2) (by decide) (dk kX7_whole 5 rfl) ?_
    refine g_goto C (tgt := 15) (dk kX7_whole 6 rfl) (by decide) ?_
    exact g_nmi (by rw [ex1, if_pos c9]) kj2
  · refine g_iload_n C (i := 1) 1 rfl rfl (dk kX7_whole 2 rfl) ?_
    refine g_bipush C (v := 18) (by decide) (dk kX7_whole 3 rfl) ?_
    refine g_icmp_lt C (tgt := 14) (dk kX7_whole 4 rfl) (by decide) (fun c10 => ?_) (fun c10 => ?_)
    · refine g_iconst C (v := 0) (by decide) (dk kX7_whole 7 rfl) ?_
      exact g_nmi (by rw [ex1, if_neg c9, if_pos c10]) kj2
    · refine g_iconst C (v := 2) (by decide) (dk kX7_whole 5 rfl) ?_
      refine g_goto C (tgt := 15) (dk kX7_whole 6 rfl) (by decide) ?_
      exact g_nmi (by rw [ex1, if_neg c9, if_neg c10]) kj2
theorem ct_X7_whole {l : Launch} {Z : ZZ} {μ : Mm} {a0 : Nat} {a1 : Int32} {r : Int32} (k0 : (zk Z a0).1 = 5) (h : f_X7_whole (zk Z) μ a0 a1 = some r) : CtM l Z false yX7_whole cX7_whole 2 (some .int) 3 0 0 [.ref (za Z a0), .int a1] μ (some (.int r)) Z μ := ct_of rfl rfl (Nat.le_of_ble_eq_true rfl) (fun X C E => t_X7_whole μ a0 a1 r k0 h C E)

def qX7_mixDots : List (Nat × Instr × Nat) := [(0, .lload_n 1, 1), (1, .lstore_n 3, 1), (2, .iconst 0, 1), (3, .istore 5, 2), (5, .iload 5, 2), (7, .aload_n 0, 1), (8, .getfield 28, 3), (11, .getfield 169, 3), (14, .getfield 238, 3), (17, .if_icmp .ge 41, 3), (20, .iconst 0, 1), (21, .istore 6, 2), (23, .iload 6, 2), (25, .iconst 5, 1), (26, .if_icmp .ge 26, 3), (29, .lload_n 3, 1), (30, .aload_n 0, 1), (31, .getfield 28, 3), (34, .iload 5, 2), (36, .iload 6, 2), (38, .invokevirtual 112, 3), (41, .i2l, 1), (42, .invokestatic 218, 3), (45, .lstore_n 3, 1), (46, .iinc 6 1, 3), (49, .goto (-26), 3), (52, .iinc 5 1, 3), (55, .goto (-50), 3), (58, .lload_n 3, 1), (59, .lreturn, 1)]
theorem kX7_mixDots : ∀ q ∈ qX7_mixDots, decode cX7_mixDots q.1 = .ok q.2 := by decide +kernel
def f_X7_mixDots_l23 (K : Nat → Nat × Nat) (μ : Mm) (v0 : Nat) (v5 : Int32) : Nat → Int64 → Int32 → Option (Int64)
  | 0, _, _ => none
  | n + 1, v3, v6 => if 5 ≤ v6 then (some v3) else (bd (rf K μ v0 3 4) fun b5 => bd (f_X5_dotValue K μ b5 v5 v6) fun x7 => bd (f_X7_mix v3 (Int32.toInt64 x7)) fun x9 => lt1 (α := Int32) (v6 + 1) fun x10 => f_X7_mixDots_l23 K μ v0 v5 n x9 x10)
def f_X7_mixDots_l5 (K : Nat → Nat × Nat) (μ : Mm) (v0 : Nat) : Nat → Int64 → Int32 → Option (Int64)
  | 0, _, _ => none
  | n + 1, v3, v5 => bd (rf K μ v0 3 4) fun b1 => bd (rf K μ b1 0 2) fun b2 => if (μ.1 b2 0) ≤ v5 then (some v3) else (bd (f_X7_mixDots_l23 K μ v0 v5 FU v3 0) fun q11 => lt1 q11 fun x12 => lt1 (α := Int32) (v5 + 1) fun x13 => f_X7_mixDots_l5 K μ v0 n x12 x13)
def f_X7_mixDots (K : Nat → Nat × Nat) (μ : Mm) (a0 : Nat) (a1 : Int64) : Option (Int64) :=
  bd (f_X7_mixDots_l5 K μ a0 FU a1 0) fun q14 => lt1 q14 fun x15 => some x15
set_option maxRecDepth 100000 in
set_option maxHeartbeats 4000000 in
theorem gl_X7_mixDots_23 {l : Launch} {Z : ZZ} {X : XX} (v0 : Nat) (v5 : Int32) (k0 : (zk Z v0).1 = 5) (μ : Mm) (C : Cx l Z false X cX7_mixDots RX7 7 (some .long)) (E : xR X = rmm 3 0 0) : ∀ (n : Nat) (v3 : Int64) (v6 : Int32) (y : Int64), f_X7_mixDots_l23 (zk Z) μ v0 v5 n v3 v6 = some y → G Z X 7 0 0 52 [(0, .ref (za Z v0)), (3, .long y), (5, .int v5)] [] (μ) → G Z X 7 0 0 23 [(0, .ref (za Z v0)), (3, .long v3), (5, .int v5), (6, .int v6)] [] μ := by
  intro n
  induction n with
  | zero => intro v3 v6 y h he; unfold f_X7_mixDots_l23 at h; cases h
  | succ n ih =>
    intro v3 v6 y h he
    unfold f_X7_mixDots_l23 at h
    refine g_iload C (i := 6) 3 rfl (dk kX7_mixDots 12 rfl) ?_
    refine g_iconst C (v := 5) (by decide) (dk kX7_mixDots 13 rfl) ?_
    refine g_icmp_ge C (tgt := 52) (dk kX7_mixDots 14 rfl) (by decide) (fun c4 => ?_) (fun c4 => ?_)
    · replace h := ite_t h c4
      cases h
      exact g_sub [0, 1, 2] rfl he
    · replace h := ite_f h c4
      refine g_lload_n C (i := 3) 1 rfl rfl (dk kX7_mixDots 15 rfl) ?_
      refine g_aload_n C (i := 0) 0 rfl rfl (dk kX7_mixDots 16 rfl) ?_
      obtain ⟨b5, eb5, h⟩ := bd_inv h
      obtain ⟨rb5, kb5⟩ := rf_inv eb5
      refine gR_5_3 C k0 (C.w wd_1_203) rb5 (dk kX7_mixDots 17 rfl) ?_
      refine g_iload C (i := 5) 2 rfl (dk kX7_mixDots 18 rfl) ?_
      refine g_iload C (i := 6) 3 rfl (dk kX7_mixDots 19 rfl) ?_
      obtain ⟨x7, eq6, h⟩ := bd_inv h
      refine g_callV C E (rest := [.long v3]) 2 (ct_X5_dotValue kb5 eq6) wd_3_226 mm_X5_dotValue ⟨rfl, by decide, by decide, by decide⟩ rfl (by decide) kb5 (by decide) rfl rfl (Nat.le_of_ble_eq_true rfl) (by decide) (dk kX7_mixDots 20 rfl) ?_
      refine g_i2l C (dk kX7_mixDots 21 rfl) ?_
      obtain ⟨x9, eq8, h⟩ := bd_inv h
      refine g_callS C E (rest := []) 2 (ct_X7_mix  eq8) wd_3_95 mm_X7_mix ⟨by decide, by decide, by decide⟩ rfl (by decide) rfl (Nat.le_of_ble_eq_true rfl) (by decide) (dk kX7_mixDots 22 rfl) ?_
      refine g_lstore_n C (i := 3) (lv' := [(3, .long x9), (0, .ref (za Z v0)), (5, .int v5), (6, .int v6)]) (dk kX7_mixDots 23 rfl) rfl (by decide) rfl ?_
      obtain ⟨x10, ex10, h⟩ := lt_inv h
      refine g_iinc C (i := 6) (v := x10) (lv' := [(6, .int x10), (3, .long x9), (0, .ref (za Z v0)), (5, .int v5)]) 3 (dk kX7_mixDots 24 rfl) rfl (by rw [ex10]; rfl) (by decide) rfl ?_
      refine g_goto C (tgt := 23) (dk kX7_mixDots 25 rfl) (by decide) ?_
      exact g_sub [2, 1, 3, 0] rfl (ih x9 x10 y h he)
set_option maxRecDepth 100000 in
set_option maxHeartbeats 4000000 in
theorem gl_X7_mixDots_5 {l : Launch} {Z : ZZ} {X : XX} (v0 : Nat) (k0 : (zk Z v0).1 = 5) (μ : Mm) (C : Cx l Z false X cX7_mixDots RX7 7 (some .long)) (E : xR X = rmm 3 0 0) : ∀ (n : Nat) (v3 : Int64) (v5 : Int32) (y : Int64), f_X7_mixDots_l5 (zk Z) μ v0 n v3 v5 = some y → G Z X 7 0 0 58 [(3, .long y)] [] (μ) → G Z X 7 0 0 5 [(0, .ref (za Z v0)), (3, .long v3), (5, .int v5)] [] μ := by
  intro n
  induction n with
  | zero => intro v3 v5 y h he; unfold f_X7_mixDots_l5 at h; cases h
  | succ n ih =>
    intro v3 v5 y h he
    unfold f_X7_mixDots_l5 at h
    refine g_iload C (i := 5) 2 rfl (dk kX7_mixDots 4 rfl) ?_
    refine g_aload_n C (i := 0) 0 rfl rfl (dk kX7_mixDots 5 rfl) ?_
    obtain ⟨b1, eb1, h⟩ := bd_inv h
    obtain ⟨rb1, kb1⟩ := rf_inv eb1
    refine gR_5_3 C k0 (C.w wd_1_203) rb1 (dk kX7_mixDots 6 rfl) ?_
    obtain ⟨b2, eb2, h⟩ := bd_inv h
    obtain ⟨rb2, kb2⟩ := rf_inv eb2
    refine gRN_4_0 C kb1 (nf_25 C) rb2 (dk kX7_mixDots 7 rfl) ?_
    refine gIN_2_0 C kb2 (nf_4 C) (dk kX7_mixDots 8 rfl) ?_
    refine g_icmp_ge C (tgt := 58) (dk kX7_mixDots 9 rfl) (by decide) (fun c3 => ?_) (fun c3 => ?_)
    · replace h := ite_t h c3
      cases h
      exact g_sub [1] rfl he
    · replace h := ite_f h c3
      refine g_iconst C (v := 0) (by decide) (dk kX7_mixDots 10 rfl) ?_
      refine g_istore C (i := 6) (lv' := [(6, .int 0), (0, .ref (za Z v0)), (3, .long v3), (5, .int v5)]) (dk kX7_mixDots 11 rfl) (by decide) rfl ?_
      obtain ⟨q11, eq11, h⟩ := bd_inv h
      refine g_sub [1, 2, 3, 0] (lv' := [(0, .ref (za Z v0)), (3, .long v3), (5, .int v5), (6, .int 0)]) rfl ?_
      refine gl_X7_mixDots_23 v0 v5 k0 μ C E FU v3 0 _ eq11 ?_
      obtain ⟨x12, ex12, h⟩ := lt_inv h
      rw [← ex12]
      obtain ⟨x13, ex13, h⟩ := lt_inv h
      refine g_iinc C (i := 5) (v := x13) (lv' := [(5, .int x13), (0, .ref (za Z v0)), (3, .long x12)]) 2 (dk kX7_mixDots 26 rfl) rfl (by rw [ex13]; rfl) (by decide) rfl ?_
      refine g_goto C (tgt := 5) (dk kX7_mixDots 27 rfl) (by decide) ?_
      exact g_sub [1, 2, 0] rfl (ih x12 x13 y h he)
set_option maxRecDepth 100000 in
set_option maxHeartbeats 4000000 in
theorem t_X7_mixDots {l : Launch} {Z : ZZ} {X : XX} (μ : Mm) (a0 : Nat) (a1 : Int64) (r : Int64) (k0 : (zk Z a0).1 = 5) (h : f_X7_mixDots (zk Z) μ a0 a1 = some r) (C : Cx l Z false X cX7_mixDots RX7 7 (some .long)) (E : Ex Z X 3 0 0 (some (.long r)) Z μ) : G Z X 7 0 0 0 [(0, .ref (za Z a0)), (1, .long a1)] [] μ := by
  unfold f_X7_mixDots at h
  refine g_lload_n C (i := 1) 1 rfl rfl (dk kX7_mixDots 0 rfl) ?_
  refine g_lstore_n C (i := 3) (lv' := [(3, .long a1), (0, .ref (za Z a0)), (1, .long a1)]) (dk kX7_mixDots 1 rfl) rfl (by decide) rfl ?_
  refine g_iconst C (v := 0) (by decide) (dk kX7_mixDots 2 rfl) ?_
  refine g_istore C (i := 5) (lv' := [(5, .int 0), (3, .long a1), (0, .ref (za Z a0)), (1, .long a1)]) (dk kX7_mixDots 3 rfl) (by decide) rfl ?_
  obtain ⟨q14, eq14, h⟩ := bd_inv h
  refine g_sub [2, 1, 0] (lv' := [(0, .ref (za Z a0)), (3, .long a1), (5, .int 0)]) rfl ?_
  refine gl_X7_mixDots_5 a0 k0 μ C E.2 FU a1 0 _ eq14 ?_
  obtain ⟨x15, ex15, h⟩ := lt_inv h
  rw [← ex15]
  refine g_lload_n C (i := 3) 0 rfl rfl (dk kX7_mixDots 28 rfl) ?_
  have h9 := Option.some.inj h
  subst h9
  exact g_lret C E (Nat.le_refl 0) (Nat.le_refl 0) (dk kX7_mixDots 29 rfl)
theorem ct_X7_mixDots {l : Launch} {Z : ZZ} {μ : Mm} {a0 : Nat} {a1 : Int64} {r : Int64} (k0 : (zk Z a0).1 = 5) (h : f_X7_mixDots (zk Z) μ a0 a1 = some r) : CtM l Z false yX7_mixDots cX7_mixDots 7 (some .long) 3 0 0 [.ref (za Z a0), .long a1] μ (some (.long r)) Z μ := ct_of rfl rfl (Nat.le_of_ble_eq_true rfl) (fun X C E => t_X7_mixDots μ a0 a1 r k0 h C E)

def qX7_mixLabels : List (Nat × Instr × Nat) := [(0, .lload_n 1, 1), (1, .lstore_n 3, 1), (2, .iconst 0, 1), (3, .istore 5, 2), (5, .iload 5, 2), (7, .aload_n 0, 1), (8, .getfield 28, 3), (11, .getfield 241, 3), (14, .if_icmp .ge 80, 3), (17, .aload_n 0, 1), (18, .getfield 28, 3), (21, .getfield 118, 3), (24, .iload 5, 2), (26, .aaload, 1), (27, .astore 6, 2), (29, .iconst 0, 1), (30, .istore 7, 2), (32, .iload 7, 2), (34, .bipush 6, 2), (36, .if_icmp .ge 22, 3), (39, .lload_n 3, 1), (40, .aload 6, 2), (42, .iload 7, 2), (44, .invokevirtual 122, 3), (47, .i2l, 1), (48, .invokestatic 218, 3), (51, .lstore_n 3, 1), (52, .iinc 7 1, 3), (55, .goto (-23), 3), (58, .iconst 0, 1), (59, .istore 7, 2), (61, .iload 7, 2), (63, .bipush 6, 2), (65, .if_icmp .ge 23, 3), (68, .lload_n 3, 1), (69, .aload 6, 2), (71, .getfield 127, 3), (74, .iload 7, 2), (76, .iaload, 1), (77, .i2l, 1), (78, .invokestatic 218, 3), (81, .lstore_n 3, 1), (82, .iinc 7 1, 3), (85, .goto (-24), 3), (88, .iinc 5 1, 3), (91, .goto (-86), 3), (94, .lload_n 3, 1), (95, .lreturn, 1)]
theorem kX7_mixLabels : ∀ q ∈ qX7_mixLabels, decode cX7_mixLabels q.1 = .ok q.2 := by decide +kernel
def f_X7_mixLabels_l32 (K : Nat → Nat × Nat) (μ : Mm) (v0 : Nat) (v5 : Int32) (v6 : Nat) : Nat → Int64 → Int32 → Option (Int64)
  | 0, _, _ => none
  | n + 1, v3, v7 => if 6 ≤ v7 then (some v3) else (bd (f_X4_value K μ v6 v7) fun x9 => bd (f_X7_mix v3 (Int32.toInt64 x9)) fun x11 => lt1 (α := Int32) (v7 + 1) fun x12 => f_X7_mixLabels_l32 K μ v0 v5 v6 n x11 x12)
def f_X7_mixLabels_l61 (K : Nat → Nat × Nat) (μ : Mm) (v0 : Nat) (v5 : Int32) (v6 : Nat) : Nat → Int64 → Int32 → Option (Int64)
  | 0, _, _ => none
  | n + 1, v3, v7 => if 6 ≤ v7 then (some v3) else (bd (rf K μ v6 4 8) fun b16 => gd (inb v7 (K b16).2) <| bd (f_X7_mix v3 (Int32.toInt64 (μ.1 b16 (ix v7)))) fun x19 => lt1 (α := Int32) (v7 + 1) fun x20 => f_X7_mixLabels_l61 K μ v0 v5 v6 n x19 x20)
def f_X7_mixLabels_l5 (K : Nat → Nat × Nat) (μ : Mm) (v0 : Nat) : Nat → Int64 → Int32 → Option (Int64)
  | 0, _, _ => none
  | n + 1, v3, v5 => bd (rf K μ v0 3 4) fun b1 => if (μ.1 b1 4) ≤ v5 then (some v3) else (bd (rf K μ v0 3 4) fun b3 => bd (rf K μ b3 3 10) fun b4 => gd (inb v5 (K b4).2) <| bd (rf K μ b4 (ix v5) 3) fun b6 => bd (f_X7_mixLabels_l32 K μ v0 v5 b6 FU v3 0) fun q13 => lt1 q13 fun x14 => bd (f_X7_mixLabels_l61 K μ v0 v5 b6 FU x14 0) fun q21 => lt1 q21 fun x22 => lt1 (α := Int32) (v5 + 1) fun x23 => f_X7_mixLabels_l5 K μ v0 n x22 x23)
def f_X7_mixLabels (K : Nat → Nat × Nat) (μ : Mm) (a0 : Nat) (a1 : Int64) : Option (Int64) :=
  bd (f_X7_mixLabels_l5 K μ a0 FU a1 0) fun q24 => lt1 q24 fun x25 => some x25
set_option maxRecDepth 100000 in
set_option maxHeartbeats 4000000 in
theorem gl_X7_mixLabels_32 {l : Launch} {Z : ZZ} {X : XX} (v0 : Nat) (v5 : Int32) (v6 : Nat) (k0 : (zk Z v0).1 = 5) (k6 : (zk Z v6).1 = 3) (μ : Mm) (C : Cx l Z false X cX7_mixLabels RX7 8 (some .long)) (E : xR X = rmm 3 0 0) : ∀ (n : Nat) (v3 : Int64) (v7 : Int32) (y : Int64), f_X7_mixLabels_l32 (zk Z) μ v0 v5 v6 n v3 v7 = some y → G Z X 8 0 0 58 [(0, .ref (za Z v0)), (3, .long y), (5, .int v5), (6, .ref (za Z v6))] [] (μ) → G Z X 8 0 0 32 [(0, .ref (za Z v0)), (3, .long v3), (5, .int v5), (6, .ref (za Z v6)), (7, .int v7)] [] μ := by
  intro n
  induction n with
  | zero => intro v3 v7 y h he; unfold f_X7_mixLabels_l32 at h; cases h
  | succ n ih =>
    intro v3 v7 y h he
    unfold f_X7_mixLabels_l32 at h
    refine g_iload C (i := 7) 4 rfl (dk kX7_mixLabels 17 rfl) ?_
    refine g_bipush C (v := 6) (by decide) (dk kX7_mixLabels 18 rfl) ?_
    refine g_icmp_ge C (tgt := 58) (dk kX7_mixLabels 19 rfl) (by decide) (fun c7 => ?_) (fun c7 => ?_)
    · replace h := ite_t h c7
      cases h
      exact g_sub [0, 1, 2, 3] rfl he
    · replace h := ite_f h c7
      refine g_lload_n C (i := 3) 1 rfl rfl (dk kX7_mixLabels 20 rfl) ?_
      refine g_aload C (i := 6) 3 rfl (dk kX7_mixLabels 21 rfl) ?_
      refine g_iload C (i := 7) 4 rfl (dk kX7_mixLabels 22 rfl) ?_
      obtain ⟨x9, eq8, h⟩ := bd_inv h
      refine g_callV C E (rest := [.long v3]) 1 (ct_X4_value k6 eq8) wd_3_239 mm_X4_value ⟨rfl, by decide, by decide, by decide⟩ rfl (by decide) k6 (by decide) rfl rfl (Nat.le_of_ble_eq_true rfl) (by decide) (dk kX7_mixLabels 23 rfl) ?_
      refine g_i2l C (dk kX7_mixLabels 24 rfl) ?_
      obtain ⟨x11, eq10, h⟩ := bd_inv h
      refine g_callS C E (rest := []) 2 (ct_X7_mix  eq10) wd_3_95 mm_X7_mix ⟨by decide, by decide, by decide⟩ rfl (by decide) rfl (Nat.le_of_ble_eq_true rfl) (by decide) (dk kX7_mixLabels 25 rfl) ?_
      refine g_lstore_n C (i := 3) (lv' := [(3, .long x11), (0, .ref (za Z v0)), (5, .int v5), (6, .ref (za Z v6)), (7, .int v7)]) (dk kX7_mixLabels 26 rfl) rfl (by decide) rfl ?_
      obtain ⟨x12, ex12, h⟩ := lt_inv h
      refine g_iinc C (i := 7) (v := x12) (lv' := [(7, .int x12), (3, .long x11), (0, .ref (za Z v0)), (5, .int v5), (6, .ref (za Z v6))]) 4 (dk kX7_mixLabels 27 rfl) rfl (by rw [ex12]; rfl) (by decide) rfl ?_
      refine g_goto C (tgt := 32) (dk kX7_mixLabels 28 rfl) (by decide) ?_
      exact g_sub [2, 1, 3, 4, 0] rfl (ih x11 x12 y h he)
set_option maxRecDepth 100000 in
set_option maxHeartbeats 4000000 in
theorem gl_X7_mixLabels_61 {l : Launch} {Z : ZZ} {X : XX} (v0 : Nat) (v5 : Int32) (v6 : Nat) (k0 : (zk Z v0).1 = 5) (k6 : (zk Z v6).1 = 3) (μ : Mm) (C : Cx l Z false X cX7_mixLabels RX7 8 (some .long)) (E : xR X = rmm 3 0 0) : ∀ (n : Nat) (v3 : Int64) (v7 : Int32) (y : Int64), f_X7_mixLabels_l61 (zk Z) μ v0 v5 v6 n v3 v7 = some y → G Z X 8 0 0 88 [(0, .ref (za Z v0)), (3, .long y), (5, .int v5)] [] (μ) → G Z X 8 0 0 61 [(0, .ref (za Z v0)), (3, .long v3), (5, .int v5), (6, .ref (za Z v6)), (7, .int v7)] [] μ := by
  intro n
  induction n with
  | zero => intro v3 v7 y h he; unfold f_X7_mixLabels_l61 at h; cases h
  | succ n ih =>
    intro v3 v7 y h he
    unfold f_X7_mixLabels_l61 at h
    refine g_iload C (i := 7) 4 rfl (dk kX7_mixLabels 31 rfl) ?_
    refine g_bipush C (v := 6) (by decide) (dk kX7_mixLabels 32 rfl) ?_
    refine g_icmp_ge C (tgt := 88) (dk kX7_mixLabels 33 rfl) (by decide) (fun c15 => ?_) (fun c15 => ?_)
    · replace h := ite_t h c15
      cases h
      exact g_sub [0, 1, 2] rfl he
    · replace h := ite_f h c15
      refine g_lload_n C (i := 3) 1 rfl rfl (dk kX7_mixLabels 34 rfl) ?_
      refine g_aload C (i := 6) 3 rfl (dk kX7_mixLabels 35 rfl) ?_
      obtain ⟨b16, eb16, h⟩ := bd_inv h
      obtain ⟨rb16, kb16⟩ := rf_inv eb16
      refine gRN_3_4 C k6 (nf_18 C) rb16 (dk kX7_mixLabels 36 rfl) ?_
      refine g_iload C (i := 7) 4 rfl (dk kX7_mixLabels 37 rfl) ?_
      obtain ⟨c17, h⟩ := gd_inv h
      refine g_iald C kb16 c17 (dk kX7_mixLabels 38 rfl) ?_
      refine g_i2l C (dk kX7_mixLabels 39 rfl) ?_
      obtain ⟨x19, eq18, h⟩ := bd_inv h
      refine g_callS C E (rest := []) 2 (ct_X7_mix  eq18) wd_3_95 mm_X7_mix ⟨by decide, by decide, by decide⟩ rfl (by decide) rfl (Nat.le_of_ble_eq_true rfl) (by decide) (dk kX7_mixLabels 40 rfl) ?_
      refine g_lstore_n C (i := 3) (lv' := [(3, .long x19), (0, .ref (za Z v0)), (5, .int v5), (6, .ref (za Z v6)), (7, .int v7)]) (dk kX7_mixLabels 41 rfl) rfl (by decide) rfl ?_
      obtain ⟨x20, ex20, h⟩ := lt_inv h
      refine g_iinc C (i := 7) (v := x20) (lv' := [(7, .int x20), (3, .long x19), (0, .ref (za Z v0)), (5, .int v5), (6, .ref (za Z v6))]) 4 (dk kX7_mixLabels 42 rfl) rfl (by rw [ex20]; rfl) (by decide) rfl ?_
      refine g_goto C (tgt := 61) (dk kX7_mixLabels 43 rfl) (by decide) ?_
      exact g_sub [2, 1, 3, 4, 0] rfl (ih x19 x20 y h he)
set_option maxRecDepth 100000 in
set_option maxHeartbeats 4000000 in
theorem gl_X7_mixLabels_5 {l : Launch} {Z : ZZ} {X : XX} (v0 : Nat) (k0 : (zk Z v0).1 = 5) (μ : Mm) (C : Cx l Z false X cX7_mixLabels RX7 8 (some .long)) (E : xR X = rmm 3 0 0) : ∀ (n : Nat) (v3 : Int64) (v5 : Int32) (y : Int64), f_X7_mixLabels_l5 (zk Z) μ v0 n v3 v5 = some y → G Z X 8 0 0 94 [(3, .long y)] [] (μ) → G Z X 8 0 0 5 [(0, .ref (za Z v0)), (3, .long v3), (5, .int v5)] [] μ := by
  intro n
  induction n with
  | zero => intro v3 v5 y h he; unfold f_X7_mixLabels_l5 at h; cases h
  | succ n ih =>
    intro v3 v5 y h he
    unfold f_X7_mixLabels_l5 at h
    refine g_iload C (i := 5) 2 rfl (dk kX7_mixLabels 4 rfl) ?_
    refine g_aload_n C (i := 0) 0 rfl rfl (dk kX7_mixLabels 5 rfl) ?_
    obtain ⟨b1, eb1, h⟩ := bd_inv h
    obtain ⟨rb1, kb1⟩ := rf_inv eb1
    refine gR_5_3 C k0 (C.w wd_1_203) rb1 (dk kX7_mixLabels 6 rfl) ?_
    refine gIN_4_4 C kb1 (nf_27 C) (dk kX7_mixLabels 7 rfl) ?_
    refine g_icmp_ge C (tgt := 94) (dk kX7_mixLabels 8 rfl) (by decide) (fun c2 => ?_) (fun c2 => ?_)
    · replace h := ite_t h c2
      cases h
      exact g_sub [1] rfl he
    · replace h := ite_f h c2
      refine g_aload_n C (i := 0) 0 rfl rfl (dk kX7_mixLabels 9 rfl) ?_
      obtain ⟨b3, eb3, h⟩ := bd_inv h
      obtain ⟨rb3, kb3⟩ := rf_inv eb3
      refine gR_5_3 C k0 (C.w wd_1_203) rb3 (dk kX7_mixLabels 10 rfl) ?_
      obtain ⟨b4, eb4, h⟩ := bd_inv h
      obtain ⟨rb4, kb4⟩ := rf_inv eb4
      refine gRN_4_3 C kb3 (nf_26 C) rb4 (dk kX7_mixLabels 11 rfl) ?_
      refine g_iload C (i := 5) 2 rfl (dk kX7_mixLabels 12 rfl) ?_
      obtain ⟨c5, h⟩ := gd_inv h
      obtain ⟨b6, eb6, h⟩ := bd_inv h
      obtain ⟨rb6, kb6⟩ := rf_inv eb6
      refine gA_10 C kb4 c5 rb6 (dk kX7_mixLabels 13 rfl) ?_
      refine g_astore C (i := 6) (lv' := [(6, .ref (za Z b6)), (0, .ref (za Z v0)), (3, .long v3), (5, .int v5)]) (dk kX7_mixLabels 14 rfl) (by decide) rfl ?_
      refine g_iconst C (v := 0) (by decide) (dk kX7_mixLabels 15 rfl) ?_
      refine g_istore C (i := 7) (lv' := [(7, .int 0), (6, .ref (za Z b6)), (0, .ref (za Z v0)), (3, .long v3), (5, .int v5)]) (dk kX7_mixLabels 16 rfl) (by decide) rfl ?_
      obtain ⟨q13, eq13, h⟩ := bd_inv h
      refine g_sub [2, 3, 4, 1, 0] (lv' := [(0, .ref (za Z v0)), (3, .long v3), (5, .int v5), (6, .ref (za Z b6)), (7, .int 0)]) rfl ?_
      refine gl_X7_mixLabels_32 v0 v5 b6 k0 kb6 μ C E FU v3 0 _ eq13 ?_
      obtain ⟨x14, ex14, h⟩ := lt_inv h
      rw [← ex14]
      refine g_iconst C (v := 0) (by decide) (dk kX7_mixLabels 29 rfl) ?_
      refine g_istore C (i := 7) (lv' := [(7, .int 0), (0, .ref (za Z v0)), (3, .long x14), (5, .int v5), (6, .ref (za Z b6))]) (dk kX7_mixLabels 30 rfl) (by decide) rfl ?_
      obtain ⟨q21, eq21, h⟩ := bd_inv h
      refine g_sub [1, 2, 3, 4, 0] (lv' := [(0, .ref (za Z v0)), (3, .long x14), (5, .int v5), (6, .ref (za Z b6)), (7, .int 0)]) rfl ?_
      refine gl_X7_mixLabels_61 v0 v5 b6 k0 kb6 μ C E FU x14 0 _ eq21 ?_
      obtain ⟨x22, ex22, h⟩ := lt_inv h
      rw [← ex22]
      obtain ⟨x23, ex23, h⟩ := lt_inv h
      refine g_iinc C (i := 5) (v := x23) (lv' := [(5, .int x23), (0, .ref (za Z v0)), (3, .long x22)]) 2 (dk kX7_mixLabels 44 rfl) rfl (by rw [ex23]; rfl) (by decide) rfl ?_
      refine g_goto C (tgt := 5) (dk kX7_mixLabels 45 rfl) (by decide) ?_
      exact g_sub [1, 2, 0] rfl (ih x22 x23 y h he)
set_option maxRecDepth 100000 in
set_option maxHeartbeats 4000000 in
theorem t_X7_mixLabels {l : Launch} {Z : ZZ} {X : XX} (μ : Mm) (a0 : Nat) (a1 : Int64) (r : Int64) (k0 : (zk Z a0).1 = 5) (h : f_X7_mixLabels (zk Z) μ a0 a1 = some r) (C : Cx l Z false X cX7_mixLabels RX7 8 (some .long)) (E : Ex Z X 3 0 0 (some (.long r)) Z μ) : G Z X 8 0 0 0 [(0, .ref (za Z a0)), (1, .long a1)] [] μ := by
  unfold f_X7_mixLabels at h
  refine g_lload_n C (i := 1) 1 rfl rfl (dk kX7_mixLabels 0 rfl) ?_
  refine g_lstore_n C (i := 3) (lv' := [(3, .long a1), (0, .ref (za Z a0)), (1, .long a1)]) (dk kX7_mixLabels 1 rfl) rfl (by decide) rfl ?_
  refine g_iconst C (v := 0) (by decide) (dk kX7_mixLabels 2 rfl) ?_
  refine g_istore C (i := 5) (lv' := [(5, .int 0), (3, .long a1), (0, .ref (za Z a0)), (1, .long a1)]) (dk kX7_mixLabels 3 rfl) (by decide) rfl ?_
  obtain ⟨q24, eq24, h⟩ := bd_inv h
  refine g_sub [2, 1, 0] (lv' := [(0, .ref (za Z a0)), (3, .long a1), (5, .int 0)]) rfl ?_
  refine gl_X7_mixLabels_5 a0 k0 μ C E.2 FU a1 0 _ eq24 ?_
  obtain ⟨x25, ex25, h⟩ := lt_inv h
  rw [← ex25]
  refine g_lload_n C (i := 3) 0 rfl rfl (dk kX7_mixLabels 46 rfl) ?_
  have h9 := Option.some.inj h
  subst h9
  exact g_lret C E (Nat.le_refl 0) (Nat.le_refl 0) (dk kX7_mixLabels 47 rfl)
theorem ct_X7_mixLabels {l : Launch} {Z : ZZ} {μ : Mm} {a0 : Nat} {a1 : Int64} {r : Int64} (k0 : (zk Z a0).1 = 5) (h : f_X7_mixLabels (zk Z) μ a0 a1 = some r) : CtM l Z false yX7_mixLabels cX7_mixLabels 8 (some .long) 3 0 0 [.ref (za Z a0), .long a1] μ (some (.long r)) Z μ := ct_of rfl rfl (Nat.le_of_ble_eq_true rfl) (fun X C E => t_X7_mixLabels μ a0 a1 r k0 h C E)

def qX7_mixCustomers : List (Nat × Instr × Nat) := [(0, .lload_n 1, 1), (1, .lstore_n 3, 1), (2, .iconst 0, 1), (3, .istore 5, 2), (5, .iload 5, 2), (7, .aload_n 0, 1), (8, .getfield 28, 3), (11, .getfield 244, 3), (14, .if_icmp .ge 84, 3), (17, .iconst 0, 1), (18, .istore 6, 2), (20, .iload 6, 2), (22, .bipush 6, 2), (24, .if_icmp .ge 30, 3), (27, .lload_n 3, 1), (28, .aload_n 0, 1), (29, .getfield 28, 3), (32, .getfield 134, 3), (35, .iload 5, 2), (37, .aaload, 1), (38, .iload 6, 2), (40, .invokevirtual 138, 3), (43, .i2l, 1), (44, .invokestatic 218, 3), (47, .lstore_n 3, 1), (48, .iinc 6 1, 3), (51, .goto (-31), 3), (54, .iconst 0, 1), (55, .istore 6, 2), (57, .iload 6, 2), (59, .aload_n 0, 1), (60, .getfield 28, 3), (63, .getfield 241, 3), (66, .if_icmp .ge 26, 3), (69, .lload_n 3, 1), (70, .aload_n 0, 1), (71, .getfield 28, 3), (74, .iload 5, 2), (76, .iload 6, 2), (78, .invokevirtual 163, 3), (81, .i2l, 1), (82, .invokestatic 218, 3), (85, .lstore_n 3, 1), (86, .iinc 6 1, 3), (89, .goto (-32), 3), (92, .iinc 5 1, 3), (95, .goto (-90), 3), (98, .lload_n 3, 1), (99, .lreturn, 1)]
theorem kX7_mixCustomers : ∀ q ∈ qX7_mixCustomers, decode cX7_mixCustomers q.1 = .ok q.2 := by decide +kernel
def f_X7_mixCustomers_l20 (K : Nat → Nat × Nat) (μ : Mm) (v0 : Nat) (v5 : Int32) : Nat → Int64 → Int32 → Option (Int64)
  | 0, _, _ => none
  | n + 1, v3, v6 => if 6 ≤ v6 then (some v3) else (bd (rf K μ v0 3 4) fun b4 => bd (rf K μ b4 5 9) fun b5 => gd (inb v5 (K b5).2) <| bd (rf K μ b5 (ix v5) 1) fun b7 => bd (f_X2_value K μ b7 v6) fun x9 => bd (f_X7_mix v3 (Int32.toInt64 x9)) fun x11 => lt1 (α := Int32) (v6 + 1) fun x12 => f_X7_mixCustomers_l20 K μ v0 v5 n x11 x12)
def f_X7_mixCustomers_l57 (K : Nat → Nat × Nat) (v0 : Nat) (v5 : Int32) : Nat → Mm → Int64 → Int32 → Option (Int64 × Mm)
  | 0, _, _, _ => none
  | n + 1, μ, v3, v6 => bd (rf K μ v0 3 4) fun b15 => if (μ.1 b15 4) ≤ v6 then (some (v3, μ)) else (bd (rf K μ v0 3 4) fun b17 => bd (f_X5_bestPlace K μ b17 v5 v6) fun q18 => lt1 q18.1 fun x20 => lt1 q18.2 fun μ19 => bd (f_X7_mix v3 (Int32.toInt64 x20)) fun x22 => lt1 (α := Int32) (v6 + 1) fun x23 => f_X7_mixCustomers_l57 K v0 v5 n μ19 x22 x23)
def f_X7_mixCustomers_l5 (K : Nat → Nat × Nat) (v0 : Nat) : Nat → Mm → Int64 → Int32 → Option (Int64 × Mm)
  | 0, _, _, _ => none
  | n + 1, μ, v3, v5 => bd (rf K μ v0 3 4) fun b1 => if (μ.1 b1 6) ≤ v5 then (some (v3, μ)) else (bd (f_X7_mixCustomers_l20 K μ v0 v5 FU v3 0) fun q13 => lt1 q13 fun x14 => bd (f_X7_mixCustomers_l57 K v0 v5 FU μ x14 0) fun q24 => lt1 q24.1 fun x25 => lt1 q24.2 fun μ26 => lt1 (α := Int32) (v5 + 1) fun x27 => f_X7_mixCustomers_l5 K v0 n μ26 x25 x27)
def f_X7_mixCustomers (K : Nat → Nat × Nat) (μ : Mm) (a0 : Nat) (a1 : Int64) : Option (Int64 × Mm) :=
  bd (f_X7_mixCustomers_l5 K a0 FU μ a1 0) fun q28 => lt1 q28.1 fun x29 => lt1 q28.2 fun μ30 => some (x29, μ30)
set_option maxRecDepth 100000 in
set_option maxHeartbeats 4000000 in
theorem gl_X7_mixCustomers_20 {l : Launch} {Z : ZZ} {X : XX} (v0 : Nat) (v5 : Int32) (k0 : (zk Z v0).1 = 5) (μ : Mm) (C : Cx l Z false X cX7_mixCustomers RX7 7 (some .long)) (E : xR X = rmm 4 0 0) : ∀ (n : Nat) (v3 : Int64) (v6 : Int32) (y : Int64), f_X7_mixCustomers_l20 (zk Z) μ v0 v5 n v3 v6 = some y → G Z X 7 0 0 54 [(0, .ref (za Z v0)), (3, .long y), (5, .int v5)] [] (μ) → G Z X 7 0 0 20 [(0, .ref (za Z v0)), (3, .long v3), (5, .int v5), (6, .int v6)] [] μ := by
  intro n
  induction n with
  | zero => intro v3 v6 y h he; unfold f_X7_mixCustomers_l20 at h; cases h
  | succ n ih =>
    intro v3 v6 y h he
    unfold f_X7_mixCustomers_l20 at h
    refine g_iload C (i := 6) 3 rfl (dk kX7_mixCustomers 11 rfl) ?_
    refine g_bipush C (v := 6) (by decide) (dk kX7_mixCustomers 12 rfl) ?_
    refine g_icmp_ge C (tgt := 54) (dk kX7_mixCustomers 13 rfl) (by decide) (fun c3 => ?_) (fun c3 => ?_)
    · replace h := ite_t h c3
      cases h
      exact g_sub [0, 1, 2] rfl he
    · replace h := ite_f h c3
      refine g_lload_n C (i := 3) 1 rfl rfl (dk kX7_mixCustomers 14 rfl) ?_
      refine g_aload_n C (i := 0) 0 rfl rfl (dk kX7_mixCustomers 15 rfl) ?_
      obtain ⟨b4, eb4, h⟩ := bd_inv h
      obtain ⟨rb4, kb4⟩ := rf_inv eb4
      refine gR_5_3 C k0 (C.w wd_1_203) rb4 (dk kX7_mixCustomers 16 rfl) ?_
      obtain ⟨b5, eb5, h⟩ := bd_inv h
      obtain ⟨rb5, kb5⟩ := rf_inv eb5
      refine gRN_4_5 C kb4 (nf_28 C) rb5 (dk kX7_mixCustomers 17 rfl) ?_
      refine g_iload C (i := 5) 2 rfl (dk kX7_mixCustomers 18 rfl) ?_
      obtain ⟨c6, h⟩ := gd_inv h
      obtain ⟨b7, eb7, h⟩ := bd_inv h
      obtain ⟨rb7, kb7⟩ := rf_inv eb7
      refine gA_9 C kb5 c6 rb7 (dk kX7_mixCustomers 19 rfl) ?_
      refine g_iload C (i := 6) 3 rfl (dk kX7_mixCustomers 20 rfl) ?_
      obtain ⟨x9, eq8, h⟩ := bd_inv h
      refine g_callV C E (rest := [.long v3]) 1 (ct_X2_value kb7 eq8) wd_4_13 mm_X2_value ⟨rfl, by decide, by decide, by decide⟩ rfl (by decide) kb7 (by decide) rfl rfl (Nat.le_of_ble_eq_true rfl) (by decide) (dk kX7_mixCustomers 21 rfl) ?_
      refine g_i2l C (dk kX7_mixCustomers 22 rfl) ?_
      obtain ⟨x11, eq10, h⟩ := bd_inv h
      refine g_callS C E (rest := []) 2 (ct_X7_mix  eq10) wd_3_95 mm_X7_mix ⟨by decide, by decide, by decide⟩ rfl (by decide) rfl (Nat.le_of_ble_eq_true rfl) (by decide) (dk kX7_mixCustomers 23 rfl) ?_
      refine g_lstore_n C (i := 3) (lv' := [(3, .long x11), (0, .ref (za Z v0)), (5, .int v5), (6, .int v6)]) (dk kX7_mixCustomers 24 rfl) rfl (by decide) rfl ?_
      obtain ⟨x12, ex12, h⟩ := lt_inv h
      refine g_iinc C (i := 6) (v := x12) (lv' := [(6, .int x12), (3, .long x11), (0, .ref (za Z v0)), (5, .int v5)]) 3 (dk kX7_mixCustomers 25 rfl) rfl (by rw [ex12]; rfl) (by decide) rfl ?_
      refine g_goto C (tgt := 20) (dk kX7_mixCustomers 26 rfl) (by decide) ?_
      exact g_sub [2, 1, 3, 0] rfl (ih x11 x12 y h he)
set_option maxRecDepth 100000 in
set_option maxHeartbeats 4000000 in
theorem gl_X7_mixCustomers_57 {l : Launch} {Z : ZZ} {X : XX} (v0 : Nat) (v5 : Int32) (k0 : (zk Z v0).1 = 5) (C : Cx l Z false X cX7_mixCustomers RX7 7 (some .long)) (E : xR X = rmm 4 0 0) : ∀ (n : Nat) (μ : Mm) (v3 : Int64) (v6 : Int32) (y : Int64 × Mm), f_X7_mixCustomers_l57 (zk Z) v0 v5 n μ v3 v6 = some y → G Z X 7 0 0 92 [(0, .ref (za Z v0)), (3, .long y.1), (5, .int v5)] [] y.2 → G Z X 7 0 0 57 [(0, .ref (za Z v0)), (3, .long v3), (5, .int v5), (6, .int v6)] [] μ := by
  intro n
  induction n with
  | zero => intro μ v3 v6 y h he; unfold f_X7_mixCustomers_l57 at h; cases h
  | succ n ih =>
    intro μ v3 v6 y h he
    unfold f_X7_mixCustomers_l57 at h
    refine g_iload C (i := 6) 3 rfl (dk kX7_mixCustomers 29 rfl) ?_
    refine g_aload_n C (i := 0) 0 rfl rfl (dk kX7_mixCustomers 30 rfl) ?_
    obtain ⟨b15, eb15, h⟩ := bd_inv h
    obtain ⟨rb15, kb15⟩ := rf_inv eb15
    refine gR_5_3 C k0 (C.w wd_1_203) rb15 (dk kX7_mixCustomers 31 rfl) ?_
    refine gIN_4_4 C kb15 (nf_27 C) (dk kX7_mixCustomers 32 rfl) ?_
    refine g_icmp_ge C (tgt := 92) (dk kX7_mixCustomers 33 rfl) (by decide) (fun c16 => ?_) (fun c16 => ?_)
    · replace h := ite_t h c16
      cases h
      exact g_sub [0, 1, 2] rfl he
    · replace h := ite_f h c16
      refine g_lload_n C (i := 3) 1 rfl rfl (dk kX7_mixCustomers 34 rfl) ?_
      refine g_aload_n C (i := 0) 0 rfl rfl (dk kX7_mixCustomers 35 rfl) ?_
      obtain ⟨b17, eb17, h⟩ := bd_inv h
      obtain ⟨rb17, kb17⟩ := rf_inv eb17
      refine gR_5_3 C k0 (C.w wd_1_203) rb17 (dk kX7_mixCustomers 36 rfl) ?_
      refine g_iload C (i := 5) 2 rfl (dk kX7_mixCustomers 37 rfl) ?_
      refine g_iload C (i := 6) 3 rfl (dk kX7_mixCustomers 38 rfl) ?_
      obtain ⟨q18, eq18, h⟩ := bd_inv h
      obtain ⟨x20, ex20, h⟩ := lt_inv h
      obtain ⟨μ19, eμ19, h⟩ := lt_inv h
      rw [show q18 = (x20, μ19) from by rw [ex20, eμ19]] at eq18
      refine g_callV C E (rest := [.long v3]) 2 (ct_X5_bestPlace kb17 eq18) wd_4_17 mm_X5_bestPlace ⟨rfl, by decide, by decide, by decide⟩ rfl (by decide) kb17 (by decide) rfl rfl (Nat.le_of_ble_eq_true rfl) (by decide) (dk kX7_mixCustomers 39 rfl) ?_
      refine g_i2l C (dk kX7_mixCustomers 40 rfl) ?_
      obtain ⟨x22, eq21, h⟩ := bd_inv h
      refine g_callS C E (rest := []) 2 (ct_X7_mix  eq21) wd_3_95 mm_X7_mix ⟨by decide, by decide, by decide⟩ rfl (by decide) rfl (Nat.le_of_ble_eq_true rfl) (by decide) (dk kX7_mixCustomers 41 rfl) ?_
      refine g_lstore_n C (i := 3) (lv' := [(3, .long x22), (0, .ref (za Z v0)), (5, .int v5), (6, .int v6)]) (dk kX7_mixCustomers 42 rfl) rfl (by decide) rfl ?_
      obtain ⟨x23, ex23, h⟩ := lt_inv h
      refine g_iinc C (i := 6) (v := x23) (lv' := [(6, .int x23), (3, .long x22), (0, .ref (za Z v0)), (5, .int v5)]) 3 (dk kX7_mixCustomers 43 rfl) rfl (by rw [ex23]; rfl) (by decide) rfl ?_
      refine g_goto C (tgt := 57) (dk kX7_mixCustomers 44 rfl) (by decide) ?_
      exact g_sub [2, 1, 3, 0] rfl (ih μ19 x22 x23 y h he)
set_option maxRecDepth 100000 in
set_option maxHeartbeats 4000000 in
theorem gl_X7_mixCustomers_5 {l : Launch} {Z : ZZ} {X : XX} (v0 : Nat) (k0 : (zk Z v0).1 = 5) (C : Cx l Z false X cX7_mixCustomers RX7 7 (some .long)) (E : xR X = rmm 4 0 0) : ∀ (n : Nat) (μ : Mm) (v3 : Int64) (v5 : Int32) (y : Int64 × Mm), f_X7_mixCustomers_l5 (zk Z) v0 n μ v3 v5 = some y → G Z X 7 0 0 98 [(3, .long y.1)] [] y.2 → G Z X 7 0 0 5 [(0, .ref (za Z v0)), (3, .long v3), (5, .int v5)] [] μ := by
  intro n
  induction n with
  | zero => intro μ v3 v5 y h he; unfold f_X7_mixCustomers_l5 at h; cases h
  | succ n ih =>
    intro μ v3 v5 y h he
    unfold f_X7_mixCustomers_l5 at h
    refine g_iload C (i := 5) 2 rfl (dk kX7_mixCustomers 4 rfl) ?_
    refine g_aload_n C (i := 0) 0 rfl rfl (dk kX7_mixCustomers 5 rfl) ?_
    obtain ⟨b1, eb1, h⟩ := bd_inv h
    obtain ⟨rb1, kb1⟩ := rf_inv eb1
    refine gR_5_3 C k0 (C.w wd_1_203) rb1 (dk kX7_mixCustomers 6 rfl) ?_
    refine gIN_4_6 C kb1 (nf_29 C) (dk kX7_mixCustomers 7 rfl) ?_
    refine g_icmp_ge C (tgt := 98) (dk kX7_mixCustomers 8 rfl) (by decide) (fun c2 => ?_) (fun c2 => ?_)
    · replace h := ite_t h c2
      cases h
      exact g_sub [1] rfl he
    · replace h := ite_f h c2
      refine g_iconst C (v := 0) (by decide) (dk kX7_mixCustomers 9 rfl) ?_
      refine g_istore C (i := 6) (lv' := [(6, .int 0), (0, .ref (za Z v0)), (3, .long v3), (5, .int v5)]) (dk kX7_mixCustomers 10 rfl) (by decide) rfl ?_
      obtain ⟨q13, eq13, h⟩ := bd_inv h
      refine g_sub [1, 2, 3, 0] (lv' := [(0, .ref (za Z v0)), (3, .long v3), (5, .int v5), (6, .int 0)]) rfl ?_
      refine gl_X7_mixCustomers_20 v0 v5 k0 μ C E FU v3 0 _ eq13 ?_
      obtain ⟨x14, ex14, h⟩ := lt_inv h
      rw [← ex14]
      refine g_iconst C (v := 0) (by decide) (dk kX7_mixCustomers 27 rfl) ?_
      refine g_istore C (i := 6) (lv' := [(6, .int 0), (0, .ref (za Z v0)), (3, .long x14), (5, .int v5)]) (dk kX7_mixCustomers 28 rfl) (by decide) rfl ?_
      obtain ⟨q24, eq24, h⟩ := bd_inv h
      refine g_sub [1, 2, 3, 0] (lv' := [(0, .ref (za Z v0)), (3, .long x14), (5, .int v5), (6, .int 0)]) rfl ?_
      refine gl_X7_mixCustomers_57 v0 v5 k0 C E FU μ x14 0 _ eq24 ?_
      obtain ⟨x25, ex25, h⟩ := lt_inv h
      obtain ⟨μ26, eμ26, h⟩ := lt_inv h
      rw [← ex25, ← eμ26]
      obtain ⟨x27, ex27, h⟩ := lt_inv h
      refine g_iinc C (i := 5) (v := x27) (lv' := [(5, .int x27), (0, .ref (za Z v0)), (3, .long x25)]) 2 (dk kX7_mixCustomers 45 rfl) rfl (by rw [ex27]; rfl) (by decide) rfl ?_
      refine g_goto C (tgt := 5) (dk kX7_mixCustomers 46 rfl) (by decide) ?_
      exact g_sub [1, 2, 0] rfl (ih μ26 x25 x27 y h he)
set_option maxRecDepth 100000 in
set_option maxHeartbeats 4000000 in
theorem t_X7_mixCustomers {l : Launch} {Z : ZZ} {X : XX} (μ : Mm) (a0 : Nat) (a1 : Int64) (r : Int64) (μ' : Mm) (k0 : (zk Z a0).1 = 5) (h : f_X7_mixCustomers (zk Z) μ a0 a1 = some (r, μ')) (C : Cx l Z false X cX7_mixCustomers RX7 7 (some .long)) (E : Ex Z X 4 0 0 (some (.long r)) Z μ') : G Z X 7 0 0 0 [(0, .ref (za Z a0)), (1, .long a1)] [] μ := by
  unfold f_X7_mixCustomers at h
  refine g_lload_n C (i := 1) 1 rfl rfl (dk kX7_mixCustomers 0 rfl) ?_
  refine g_lstore_n C (i := 3) (lv' := [(3, .long a1), (0, .ref (za Z a0)), (1, .long a1)]) (dk kX7_mixCustomers 1 rfl) rfl (by decide) rfl ?_
  refine g_iconst C (v := 0) (by decide) (dk kX7_mixCustomers 2 rfl) ?_
  refine g_istore C (i := 5) (lv' := [(5, .int 0), (3, .long a1), (0, .ref (za Z a0)), (1, .long a1)]) (dk kX7_mixCustomers 3 rfl) (by decide) rfl ?_
  obtain ⟨q28, eq28, h⟩ := bd_inv h
  refine g_sub [2, 1, 0] (lv' := [(0, .ref (za Z a0)), (3, .long a1), (5, .int 0)]) rfl ?_
  refine gl_X7_mixCustomers_5 a0 k0 C E.2 FU μ a1 0 _ eq28 ?_
  obtain ⟨x29, ex29, h⟩ := lt_inv h
  obtain ⟨μ30, eμ30, h⟩ := lt_inv h
  rw [← ex29, ← eμ30]
  refine g_lload_n C (i := 3) 0 rfl rfl (dk kX7_mixCustomers 47 rfl) ?_
  obtain ⟨h8, h9⟩ := Prod.mk.inj (Option.some.inj h)
  subst h8
  subst h9
  exact g_lret C E (Nat.le_refl 0) (Nat.le_refl 0) (dk kX7_mixCustomers 48 rfl)
theorem ct_X7_mixCustomers {l : Launch} {Z : ZZ} {μ : Mm} {a0 : Nat} {a1 : Int64} {r : Int64} {μ' : Mm} (k0 : (zk Z a0).1 = 5) (h : f_X7_mixCustomers (zk Z) μ a0 a1 = some (r, μ')) : CtM l Z false yX7_mixCustomers cX7_mixCustomers 7 (some .long) 4 0 0 [.ref (za Z a0), .long a1] μ (some (.long r)) Z μ' := ct_of rfl rfl (Nat.le_of_ble_eq_true rfl) (fun X C E => t_X7_mixCustomers μ a0 a1 r μ' k0 h C E)

def qX7_mostWorn : List (Nat × Instr × Nat) := [(0, .aload_n 0, 1), (1, .getfield 28, 3), (4, .getfield 169, 3), (7, .invokevirtual 173, 3), (10, .ireturn, 1)]
theorem kX7_mostWorn : ∀ q ∈ qX7_mostWorn, decode cX7_mostWorn q.1 = .ok q.2 := by decide +kernel
def f_X7_mostWorn (K : Nat → Nat × Nat) (μ : Mm) (a0 : Nat) : Option (Int32) :=
  bd (rf K μ a0 3 4) fun b1 => bd (rf K μ b1 0 2) fun b2 => bd (f_X3_mostWornDot K μ b2) fun x4 => some x4
set_option maxRecDepth 100000 in
set_option maxHeartbeats 4000000 in
theorem t_X7_mostWorn {l : Launch} {Z : ZZ} {X : XX} (μ : Mm) (a0 : Nat) (r : Int32) (k0 : (zk Z a0).1 = 5) (h : f_X7_mostWorn (zk Z) μ a0 = some r) (C : Cx l Z false X cX7_mostWorn RX7 1 (some .int)) (E : Ex Z X 1 0 0 (some (.int r)) Z μ) : G Z X 1 0 0 0 [(0, .ref (za Z a0))] [] μ := by
  unfold f_X7_mostWorn at h
  refine g_aload_n C (i := 0) 0 rfl rfl (dk kX7_mostWorn 0 rfl) ?_
  obtain ⟨b1, eb1, h⟩ := bd_inv h
  obtain ⟨rb1, kb1⟩ := rf_inv eb1
  refine gR_5_3 C k0 (C.w wd_1_203) rb1 (dk kX7_mostWorn 1 rfl) ?_
  obtain ⟨b2, eb2, h⟩ := bd_inv h
  obtain ⟨rb2, kb2⟩ := rf_inv eb2
  refine gRN_4_0 C kb1 (nf_25 C) rb2 (dk kX7_mostWorn 2 rfl) ?_
  obtain ⟨x4, eq3, h⟩ := bd_inv h
  refine g_callV C E.2 (rest := []) 0 (ct_X3_mostWornDot kb2 eq3) wd_1_217 mm_X3_mostWornDot ⟨rfl, by decide, by decide, by decide⟩ rfl (by decide) kb2 (by decide) rfl rfl (Nat.le_of_ble_eq_true rfl) (by decide) (dk kX7_mostWorn 3 rfl) ?_
  have h9 := Option.some.inj h
  subst h9
  exact g_iret C E rfl rfl (Nat.le_refl 0) (Nat.le_refl 0) (dk kX7_mostWorn 4 rfl)
theorem ct_X7_mostWorn {l : Launch} {Z : ZZ} {μ : Mm} {a0 : Nat} {r : Int32} (k0 : (zk Z a0).1 = 5) (h : f_X7_mostWorn (zk Z) μ a0 = some r) : CtM l Z false yX7_mostWorn cX7_mostWorn 1 (some .int) 1 0 0 [.ref (za Z a0)] μ (some (.int r)) Z μ := ct_of rfl rfl (Nat.le_of_ble_eq_true rfl) (fun X C E => t_X7_mostWorn μ a0 r k0 h C E)

def qX7_digest : List (Nat × Instr × Nat) := [(0, .ldc2_w 216, 3), (3, .aload_n 0, 1), (4, .getfield 209, 3), (7, .i2l, 1), (8, .invokestatic 218, 3), (11, .lstore_n 1, 1), (12, .iconst 0, 1), (13, .istore_n 3, 1), (14, .iload_n 3, 1), (15, .bipush 18, 2), (17, .if_icmp .ge 20, 3), (20, .lload_n 1, 1), (21, .aload_n 0, 1), (22, .iload_n 3, 1), (23, .invokevirtual 222, 3), (26, .i2l, 1), (27, .invokestatic 218, 3), (30, .lstore_n 1, 1), (31, .iinc 3 1, 3), (34, .goto (-20), 3), (37, .aload_n 0, 1), (38, .lload_n 1, 1), (39, .invokevirtual 225, 3), (42, .lstore_n 1, 1), (43, .aload_n 0, 1), (44, .lload_n 1, 1), (45, .invokevirtual 229, 3), (48, .lstore_n 1, 1), (49, .aload_n 0, 1), (50, .lload_n 1, 1), (51, .invokevirtual 232, 3), (54, .lstore_n 1, 1), (55, .lload_n 1, 1), (56, .aload_n 0, 1), (57, .invokevirtual 235, 3), (60, .i2l, 1), (61, .invokestatic 218, 3), (64, .lreturn, 1)]
theorem kX7_digest : ∀ q ∈ qX7_digest, decode cX7_digest q.1 = .ok q.2 := by decide +kernel
def f_X7_digest_l14 (K : Nat → Nat × Nat) (μ : Mm) (v0 : Nat) : Nat → Int64 → Int32 → Option (Int64)
  | 0, _, _ => none
  | n + 1, v1, v3 => if 18 ≤ v3 then (some v1) else (bd (f_X7_whole K μ v0 v3) fun x5 => bd (f_X7_mix v1 (Int32.toInt64 x5)) fun x7 => lt1 (α := Int32) (v3 + 1) fun x8 => f_X7_digest_l14 K μ v0 n x7 x8)
def f_X7_digest (K : Nat → Nat × Nat) (μ : Mm) (a0 : Nat) : Option (Int64 × Mm) :=
  bd (f_X7_mix 43448 (Int32.toInt64 (μ.1 a0 2))) fun x2 => bd (f_X7_digest_l14 K μ a0 FU x2 0) fun q9 => lt1 q9 fun x10 => bd (f_X7_mixDots K μ a0 x10) fun x12 => bd (f_X7_mixLabels K μ a0 x12) fun x14 => bd (f_X7_mixCustomers K μ a0 x14) fun q15 => lt1 q15.1 fun x17 => lt1 q15.2 fun μ16 => bd (f_X7_mostWorn K μ16 a0) fun x19 => bd (f_X7_mix x17 (Int32.toInt64 x19)) fun x21 => some (x21, μ16)
set_option maxRecDepth 100000 in
set_option maxHeartbeats 4000000 in
theorem gl_X7_digest_14 {l : Launch} {Z : ZZ} {X : XX} (v0 : Nat) (k0 : (zk Z v0).1 = 5) (μ : Mm) (C : Cx l Z false X cX7_digest RX7 4 (some .long)) (E : xR X = rmm 5 0 0) : ∀ (n : Nat) (v1 : Int64) (v3 : Int32) (y : Int64), f_X7_digest_l14 (zk Z) μ v0 n v1 v3 = some y → G Z X 4 0 0 37 [(0, .ref (za Z v0)), (1, .long y)] [] (μ) → G Z X 4 0 0 14 [(0, .ref (za Z v0)), (1, .long v1), (3, .int v3)] [] μ := by
  intro n
  induction n with
  | zero => intro v1 v3 y h he; unfold f_X7_digest_l14 at h; cases h
  | succ n ih =>
    intro v1 v3 y h he
    unfold f_X7_digest_l14 at h
    refine g_iload_n C (i := 3) 2 rfl rfl (dk kX7_digest 8 rfl) ?_
    refine g_bipush C (v := 18) (by decide) (dk kX7_digest 9 rfl) ?_
    refine g_icmp_ge C (tgt := 37) (dk kX7_digest 10 rfl) (by decide) (fun c3 => ?_) (fun c3 => ?_)
    · replace h := ite_t h c3
      cases h
      exact g_sub [0, 1] rfl he
    · replace h := ite_f h c3
      refine g_lload_n C (i := 1) 1 rfl rfl (dk kX7_digest 11 rfl) ?_
      refine g_aload_n C (i := 0) 0 rfl rfl (dk kX7_digest 12 rfl) ?_
      refine g_iload_n C (i := 3) 2 rfl rfl (dk kX7_digest 13 rfl) ?_
      obtain ⟨x5, eq4, h⟩ := bd_inv h
      refine g_callV C E (rest := [.long v1]) 1 (ct_X7_whole k0 eq4) wd_3_99 mm_X7_whole ⟨rfl, by decide, by decide, by decide⟩ rfl (by decide) k0 (by decide) rfl rfl (Nat.le_of_ble_eq_true rfl) (by decide) (dk kX7_digest 14 rfl) ?_
      refine g_i2l C (dk kX7_digest 15 rfl) ?_
      obtain ⟨x7, eq6, h⟩ := bd_inv h
      refine g_callS C E (rest := []) 2 (ct_X7_mix  eq6) wd_3_95 mm_X7_mix ⟨by decide, by decide, by decide⟩ rfl (by decide) rfl (Nat.le_of_ble_eq_true rfl) (by decide) (dk kX7_digest 16 rfl) ?_
      refine g_lstore_n C (i := 1) (lv' := [(1, .long x7), (0, .ref (za Z v0)), (3, .int v3)]) (dk kX7_digest 17 rfl) rfl (by decide) rfl ?_
      obtain ⟨x8, ex8, h⟩ := lt_inv h
      refine g_iinc C (i := 3) (v := x8) (lv' := [(3, .int x8), (1, .long x7), (0, .ref (za Z v0))]) 2 (dk kX7_digest 18 rfl) rfl (by rw [ex8]; rfl) (by decide) rfl ?_
      refine g_goto C (tgt := 14) (dk kX7_digest 19 rfl) (by decide) ?_
      exact g_sub [2, 1, 0] rfl (ih x7 x8 y h he)
set_option maxRecDepth 100000 in
set_option maxHeartbeats 4000000 in
theorem t_X7_digest {l : Launch} {Z : ZZ} {X : XX} (μ : Mm) (a0 : Nat) (r : Int64) (μ' : Mm) (k0 : (zk Z a0).1 = 5) (h : f_X7_digest (zk Z) μ a0 = some (r, μ')) (C : Cx l Z false X cX7_digest RX7 4 (some .long)) (E : Ex Z X 5 0 0 (some (.long r)) Z μ') : G Z X 4 0 0 0 [(0, .ref (za Z a0))] [] μ := by
  unfold f_X7_digest at h
  refine g_ldc2 C (v := 43448) (C.w wd_3_94) (dk kX7_digest 0 rfl) ?_
  refine g_aload_n C (i := 0) 0 rfl rfl (dk kX7_digest 1 rfl) ?_
  refine gI_5_2 C k0 (C.w wd_1_202) (dk kX7_digest 2 rfl) ?_
  refine g_i2l C (dk kX7_digest 3 rfl) ?_
  obtain ⟨x2, eq1, h⟩ := bd_inv h
  refine g_callS C E.2 (rest := []) 2 (ct_X7_mix  eq1) wd_3_95 mm_X7_mix ⟨by decide, by decide, by decide⟩ rfl (by decide) rfl (Nat.le_of_ble_eq_true rfl) (by decide) (dk kX7_digest 4 rfl) ?_
  refine g_lstore_n C (i := 1) (lv' := [(1, .long x2), (0, .ref (za Z a0))]) (dk kX7_digest 5 rfl) rfl (by decide) rfl ?_
  refine g_iconst C (v := 0) (by decide) (dk kX7_digest 6 rfl) ?_
  refine g_istore_n C (i := 3) (lv' := [(3, .int 0), (1, .long x2), (0, .ref (za Z a0))]) (dk kX7_digest 7 rfl) rfl (by decide) rfl ?_
  obtain ⟨q9, eq9, h⟩ := bd_inv h
  refine g_sub [2, 1, 0] (lv' := [(0, .ref (za Z a0)), (1, .long x2), (3, .int 0)]) rfl ?_
  refine gl_X7_digest_14 a0 k0 μ C E.2 FU x2 0 _ eq9 ?_
  obtain ⟨x10, ex10, h⟩ := lt_inv h
  rw [← ex10]
  refine g_aload_n C (i := 0) 0 rfl rfl (dk kX7_digest 20 rfl) ?_
  refine g_lload_n C (i := 1) 1 rfl rfl (dk kX7_digest 21 rfl) ?_
  obtain ⟨x12, eq11, h⟩ := bd_inv h
  refine g_callV C E.2 (rest := []) 1 (ct_X7_mixDots k0 eq11) wd_3_222 mm_X7_mixDots ⟨rfl, by decide, by decide, by decide⟩ rfl (by decide) k0 (by decide) rfl rfl (Nat.le_of_ble_eq_true rfl) (by decide) (dk kX7_digest 22 rfl) ?_
  refine g_lstore_n C (i := 1) (lv' := [(1, .long x12), (0, .ref (za Z a0))]) (dk kX7_digest 23 rfl) rfl (by decide) rfl ?_
  refine g_aload_n C (i := 0) 1 rfl rfl (dk kX7_digest 24 rfl) ?_
  refine g_lload_n C (i := 1) 0 rfl rfl (dk kX7_digest 25 rfl) ?_
  obtain ⟨x14, eq13, h⟩ := bd_inv h
  refine g_callV C E.2 (rest := []) 1 (ct_X7_mixLabels k0 eq13) wd_3_235 mm_X7_mixLabels ⟨rfl, by decide, by decide, by decide⟩ rfl (by decide) k0 (by decide) rfl rfl (Nat.le_of_ble_eq_true rfl) (by decide) (dk kX7_digest 26 rfl) ?_
  refine g_lstore_n C (i := 1) (lv' := [(1, .long x14), (0, .ref (za Z a0))]) (dk kX7_digest 27 rfl) rfl (by decide) rfl ?_
  refine g_aload_n C (i := 0) 1 rfl rfl (dk kX7_digest 28 rfl) ?_
  refine g_lload_n C (i := 1) 0 rfl rfl (dk kX7_digest 29 rfl) ?_
  obtain ⟨q15, eq15, h⟩ := bd_inv h
  obtain ⟨x17, ex17, h⟩ := lt_inv h
  obtain ⟨μ16, eμ16, h⟩ := lt_inv h
  rw [show q15 = (x17, μ16) from by rw [ex17, eμ16]] at eq15
  refine g_callV C E.2 (rest := []) 1 (ct_X7_mixCustomers k0 eq15) wd_4_9 mm_X7_mixCustomers ⟨rfl, by decide, by decide, by decide⟩ rfl (by decide) k0 (by decide) rfl rfl (Nat.le_of_ble_eq_true rfl) (by decide) (dk kX7_digest 30 rfl) ?_
  refine g_lstore_n C (i := 1) (lv' := [(1, .long x17), (0, .ref (za Z a0))]) (dk kX7_digest 31 rfl) rfl (by decide) rfl ?_
  refine g_lload_n C (i := 1) 0 rfl rfl (dk kX7_digest 32 rfl) ?_
  refine g_aload_n C (i := 0) 1 rfl rfl (dk kX7_digest 33 rfl) ?_
  obtain ⟨x19, eq18, h⟩ := bd_inv h
  refine g_callV C E.2 (rest := [.long x17]) 0 (ct_X7_mostWorn k0 eq18) wd_4_18 mm_X7_mostWorn ⟨rfl, by decide, by decide, by decide⟩ rfl (by decide) k0 (by decide) rfl rfl (Nat.le_of_ble_eq_true rfl) (by decide) (dk kX7_digest 34 rfl) ?_
  refine g_i2l C (dk kX7_digest 35 rfl) ?_
  obtain ⟨x21, eq20, h⟩ := bd_inv h
  refine g_callS C E.2 (rest := []) 2 (ct_X7_mix  eq20) wd_3_95 mm_X7_mix ⟨by decide, by decide, by decide⟩ rfl (by decide) rfl (Nat.le_of_ble_eq_true rfl) (by decide) (dk kX7_digest 36 rfl) ?_
  obtain ⟨h8, h9⟩ := Prod.mk.inj (Option.some.inj h)
  subst h8
  subst h9
  exact g_lret C E (Nat.le_refl 0) (Nat.le_refl 0) (dk kX7_digest 37 rfl)
theorem ct_X7_digest {l : Launch} {Z : ZZ} {μ : Mm} {a0 : Nat} {r : Int64} {μ' : Mm} (k0 : (zk Z a0).1 = 5) (h : f_X7_digest (zk Z) μ a0 = some (r, μ')) : CtM l Z false yX7_digest cX7_digest 4 (some .long) 5 0 0 [.ref (za Z a0)] μ (some (.long r)) Z μ' := ct_of rfl rfl (Nat.le_of_ble_eq_true rfl) (fun X C E => t_X7_digest μ a0 r μ' k0 h C E)

def qX7_dot : List (Nat × Instr × Nat) := [(0, .aload_n 0, 1), (1, .getfield 28, 3), (4, .iload_n 1, 1), (5, .iload_n 2, 1), (6, .invokevirtual 109, 3), (9, .invokestatic 36, 3), (12, .aload_n 0, 1), (13, .getfield 28, 3), (16, .iload_n 1, 1), (17, .iload_n 2, 1), (18, .invokevirtual 112, 3), (21, .ireturn, 1)]
theorem kX7_dot : ∀ q ∈ qX7_dot, decode cX7_dot q.1 = .ok q.2 := by decide +kernel
def f_X7_dot (K : Nat → Nat × Nat) (μ : Mm) (a0 : Nat) (a1 : Int32) (a2 : Int32) : Option (Int32) :=
  bd (rf K μ a0 3 4) fun b1 => bd (f_X5_whyNotDotValue K μ b1 a1 a2) fun x3 => bd (f_X7_refuse x3) fun q4 => bd (rf K μ a0 3 4) fun b5 => bd (f_X5_dotValue K μ b5 a1 a2) fun x7 => some x7
set_option maxRecDepth 100000 in
set_option maxHeartbeats 4000000 in
theorem t_X7_dot {l : Launch} {Z : ZZ} {X : XX} (μ : Mm) (a0 : Nat) (a1 : Int32) (a2 : Int32) (r : Int32) (k0 : (zk Z a0).1 = 5) (h : f_X7_dot (zk Z) μ a0 a1 a2 = some r) (C : Cx l Z false X cX7_dot RX7 3 (some .int)) (E : Ex Z X 3 0 0 (some (.int r)) Z μ) : G Z X 3 0 0 0 [(0, .ref (za Z a0)), (1, .int a1), (2, .int a2)] [] μ := by
  unfold f_X7_dot at h
  refine g_aload_n C (i := 0) 0 rfl rfl (dk kX7_dot 0 rfl) ?_
  obtain ⟨b1, eb1, h⟩ := bd_inv h
  obtain ⟨rb1, kb1⟩ := rf_inv eb1
  refine gR_5_3 C k0 (C.w wd_1_203) rb1 (dk kX7_dot 1 rfl) ?_
  refine g_iload_n C (i := 1) 1 rfl rfl (dk kX7_dot 2 rfl) ?_
  refine g_iload_n C (i := 2) 2 rfl rfl (dk kX7_dot 3 rfl) ?_
  obtain ⟨x3, eq2, h⟩ := bd_inv h
  refine g_callV C E.2 (rest := []) 2 (ct_X5_whyNotDotValue kb1 eq2) wd_4_134 mm_X5_whyNotDotValue ⟨rfl, by decide, by decide, by decide⟩ rfl (by decide) kb1 (by decide) rfl rfl (Nat.le_of_ble_eq_true rfl) (by decide) (dk kX7_dot 4 rfl) ?_
  obtain ⟨q4, eq4, h⟩ := bd_inv h
  refine g_callS C E.2 (rest := []) 1 (ct_X7_refuse  eq4) wd_3_103 mm_X7_refuse ⟨by decide, by decide, by decide⟩ rfl (by decide) rfl (Nat.le_of_ble_eq_true rfl) (by decide) (dk kX7_dot 5 rfl) ?_
  refine g_aload_n C (i := 0) 0 rfl rfl (dk kX7_dot 6 rfl) ?_
  obtain ⟨b5, eb5, h⟩ := bd_inv h
  obtain ⟨rb5, kb5⟩ := rf_inv eb5
  refine gR_5_3 C k0 (C.w wd_1_203) rb5 (dk kX7_dot 7 rfl) ?_
  refine g_iload_n C (i := 1) 1 rfl rfl (dk kX7_dot 8 rfl) ?_
  refine g_iload_n C (i := 2) 2 rfl rfl (dk kX7_dot 9 rfl) ?_
  obtain ⟨x7, eq6, h⟩ := bd_inv h
  refine g_callV C E.2 (rest := []) 2 (ct_X5_dotValue kb5 eq6) wd_3_226 mm_X5_dotValue ⟨rfl, by decide, by decide, by decide⟩ rfl (by decide) kb5 (by decide) rfl rfl (Nat.le_of_ble_eq_true rfl) (by decide) (dk kX7_dot 10 rfl) ?_
  have h9 := Option.some.inj h
  subst h9
  exact g_iret C E rfl rfl (Nat.le_refl 0) (Nat.le_refl 0) (dk kX7_dot 11 rfl)
theorem ct_X7_dot {l : Launch} {Z : ZZ} {μ : Mm} {a0 : Nat} {a1 : Int32} {a2 : Int32} {r : Int32} (k0 : (zk Z a0).1 = 5) (h : f_X7_dot (zk Z) μ a0 a1 a2 = some r) : CtM l Z false yX7_dot cX7_dot 3 (some .int) 3 0 0 [.ref (za Z a0), .int a1, .int a2] μ (some (.int r)) Z μ := ct_of rfl rfl (Nat.le_of_ble_eq_true rfl) (fun X C E => t_X7_dot μ a0 a1 a2 r k0 h C E)

def qX7_endRent : List (Nat × Instr × Nat) := [(0, .aload_n 0, 1), (1, .getfield 28, 3), (4, .iload_n 1, 1), (5, .invokevirtual 91, 3), (8, .invokestatic 36, 3), (11, .aload_n 0, 1), (12, .invokevirtual 40, 3), (15, .aload_n 0, 1), (16, .getfield 28, 3), (19, .iload_n 1, 1), (20, .invokevirtual 94, 3), (23, .ireturn, 1)]
theorem kX7_endRent : ∀ q ∈ qX7_endRent, decode cX7_endRent q.1 = .ok q.2 := by decide +kernel
def f_X7_endRent (K : Nat → Nat × Nat) (μ : Mm) (a0 : Nat) (a1 : Int32) : Option (Int32 × Mm) :=
  bd (rf K μ a0 3 4) fun b1 => bd (f_X5_whyNotEndLet K μ b1 a1) fun x3 => bd (f_X7_refuse x3) fun q4 => bd (f_X7_save K μ a0) fun μ6 => bd (rf K μ6 a0 3 4) fun b7 => bd (f_X5_endLet K μ6 b7 a1) fun q8 => lt1 q8.1 fun x10 => lt1 q8.2 fun μ9 => some (x10, μ9)
set_option maxRecDepth 100000 in
set_option maxHeartbeats 4000000 in
theorem t_X7_endRent {l : Launch} {Z : ZZ} {X : XX} (μ : Mm) (a0 : Nat) (a1 : Int32) (r : Int32) (μ' : Mm) (k0 : (zk Z a0).1 = 5) (h : f_X7_endRent (zk Z) μ a0 a1 = some (r, μ')) (C : Cx l Z false X cX7_endRent RX7 2 (some .int)) (E : Ex Z X 4 0 0 (some (.int r)) Z μ') : G Z X 2 0 0 0 [(0, .ref (za Z a0)), (1, .int a1)] [] μ := by
  unfold f_X7_endRent at h
  refine g_aload_n C (i := 0) 0 rfl rfl (dk kX7_endRent 0 rfl) ?_
  obtain ⟨b1, eb1, h⟩ := bd_inv h
  obtain ⟨rb1, kb1⟩ := rf_inv eb1
  refine gR_5_3 C k0 (C.w wd_1_203) rb1 (dk kX7_endRent 1 rfl) ?_
  refine g_iload_n C (i := 1) 1 rfl rfl (dk kX7_endRent 2 rfl) ?_
  obtain ⟨x3, eq2, h⟩ := bd_inv h
  refine g_callV C E.2 (rest := []) 1 (ct_X5_whyNotEndLet kb1 eq2) wd_4_101 mm_X5_whyNotEndLet ⟨rfl, by decide, by decide, by decide⟩ rfl (by decide) kb1 (by decide) rfl rfl (Nat.le_of_ble_eq_true rfl) (by decide) (dk kX7_endRent 3 rfl) ?_
  obtain ⟨q4, eq4, h⟩ := bd_inv h
  refine g_callS C E.2 (rest := []) 1 (ct_X7_refuse  eq4) wd_3_103 mm_X7_refuse ⟨by decide, by decide, by decide⟩ rfl (by decide) rfl (Nat.le_of_ble_eq_true rfl) (by decide) (dk kX7_endRent 4 rfl) ?_
  refine g_aload_n C (i := 0) 0 rfl rfl (dk kX7_endRent 5 rfl) ?_
  obtain ⟨μ6, eq5, h⟩ := bd_inv h
  refine g_callV C E.2 (rest := []) 0 (ct_X7_save k0 eq5) wd_2_83 mm_X7_save ⟨rfl, by decide, by decide, by decide⟩ rfl (by decide) k0 (by decide) rfl rfl (Nat.le_of_ble_eq_true rfl) (by decide) (dk kX7_endRent 6 rfl) ?_
  refine g_aload_n C (i := 0) 0 rfl rfl (dk kX7_endRent 7 rfl) ?_
  obtain ⟨b7, eb7, h⟩ := bd_inv h
  obtain ⟨rb7, kb7⟩ := rf_inv eb7
  refine gR_5_3 C k0 (C.w wd_1_203) rb7 (dk kX7_endRent 8 rfl) ?_
  refine g_iload_n C (i := 1) 1 rfl rfl (dk kX7_endRent 9 rfl) ?_
  obtain ⟨q8, eq8, h⟩ := bd_inv h
  obtain ⟨x10, ex10, h⟩ := lt_inv h
  obtain ⟨μ9, eμ9, h⟩ := lt_inv h
  rw [show q8 = (x10, μ9) from by rw [ex10, eμ9]] at eq8
  refine g_callV C E.2 (rest := []) 1 (ct_X5_endLet kb7 eq8) wd_4_105 mm_X5_endLet ⟨rfl, by decide, by decide, by decide⟩ rfl (by decide) kb7 (by decide) rfl rfl (Nat.le_of_ble_eq_true rfl) (by decide) (dk kX7_endRent 10 rfl) ?_
  obtain ⟨h8, h9⟩ := Prod.mk.inj (Option.some.inj h)
  subst h8
  subst h9
  exact g_iret C E rfl rfl (Nat.le_refl 0) (Nat.le_refl 0) (dk kX7_endRent 11 rfl)
theorem ct_X7_endRent {l : Launch} {Z : ZZ} {μ : Mm} {a0 : Nat} {a1 : Int32} {r : Int32} {μ' : Mm} (k0 : (zk Z a0).1 = 5) (h : f_X7_endRent (zk Z) μ a0 a1 = some (r, μ')) : CtM l Z false yX7_endRent cX7_endRent 2 (some .int) 4 0 0 [.ref (za Z a0), .int a1] μ (some (.int r)) Z μ' := ct_of rfl rfl (Nat.le_of_ble_eq_true rfl) (fun X C E => t_X7_endRent μ a0 a1 r μ' k0 h C E)

def qX7_label : List (Nat × Instr × Nat) := [(0, .aload_n 0, 1), (1, .getfield 28, 3), (4, .iload_n 1, 1), (5, .iload_n 2, 1), (6, .bipush 6, 2), (8, .invokevirtual 115, 3), (11, .invokestatic 36, 3), (14, .aload_n 0, 1), (15, .getfield 28, 3), (18, .getfield 118, 3), (21, .iload_n 1, 1), (22, .aaload, 1), (23, .iload_n 2, 1), (24, .invokevirtual 122, 3), (27, .ireturn, 1)]
theorem kX7_label : ∀ q ∈ qX7_label, decode cX7_label q.1 = .ok q.2 := by decide +kernel
def f_X7_label (K : Nat → Nat × Nat) (μ : Mm) (a0 : Nat) (a1 : Int32) (a2 : Int32) : Option (Int32) :=
  bd (rf K μ a0 3 4) fun b1 => bd (f_X5_whyNotLabelValue K μ b1 a1 a2 6) fun x3 => bd (f_X7_refuse x3) fun q4 => bd (rf K μ a0 3 4) fun b5 => bd (rf K μ b5 3 10) fun b6 => gd (inb a1 (K b6).2) <| bd (rf K μ b6 (ix a1) 3) fun b8 => bd (f_X4_value K μ b8 a2) fun x10 => some x10
set_option maxRecDepth 100000 in
set_option maxHeartbeats 4000000 in
theorem t_X7_label {l : Launch} {Z : ZZ} {X : XX} (μ : Mm) (a0 : Nat) (a1 : Int32) (a2 : Int32) (r : Int32) (k0 : (zk Z a0).1 = 5) (h : f_X7_label (zk Z) μ a0 a1 a2 = some r) (C : Cx l Z false X cX7_label RX7 3 (some .int)) (E : Ex Z X 3 0 0 (some (.int r)) Z μ) : G Z X 3 0 0 0 [(0, .ref (za Z a0)), (1, .int a1), (2, .int a2)] [] μ := by
  unfold f_X7_label at h
  refine g_aload_n C (i := 0) 0 rfl rfl (dk kX7_label 0 rfl) ?_
  obtain ⟨b1, eb1, h⟩ := bd_inv h
  obtain ⟨rb1, kb1⟩ := rf_inv eb1
  refine gR_5_3 C k0 (C.w wd_1_203) rb1 (dk kX7_label 1 rfl) ?_
  refine g_iload_n C (i := 1) 1 rfl rfl (dk kX7_label 2 rfl) ?_
  refine g_iload_n C (i := 2) 2 rfl rfl (dk kX7_label 3 rfl) ?_
  refine g_bipush C (v := 6) (by decide) (dk kX7_label 4 rfl) ?_
  obtain ⟨x3, eq2, h⟩ := bd_inv h
  refine g_callV C E.2 (rest := []) 3 (ct_X5_whyNotLabelValue kb1 eq2) wd_4_145 mm_X5_whyNotLabelValue ⟨rfl, by decide, by decide, by decide⟩ rfl (by decide) kb1 (by decide) rfl rfl (Nat.le_of_ble_eq_true rfl) (by decide) (dk kX7_label 5 rfl) ?_
  obtain ⟨q4, eq4, h⟩ := bd_inv h
  refine g_callS C E.2 (rest := []) 1 (ct_X7_refuse  eq4) wd_3_103 mm_X7_refuse ⟨by decide, by decide, by decide⟩ rfl (by decide) rfl (Nat.le_of_ble_eq_true rfl) (by decide) (dk kX7_label 6 rfl) ?_
  refine g_aload_n C (i := 0) 0 rfl rfl (dk kX7_label 7 rfl) ?_
  obtain ⟨b5, eb5, h⟩ := bd_inv h
  obtain ⟨rb5, kb5⟩ := rf_inv eb5
  refine gR_5_3 C k0 (C.w wd_1_203) rb5 (dk kX7_label 8 rfl) ?_
  obtain ⟨b6, eb6, h⟩ := bd_inv h
  obtain ⟨rb6, kb6⟩ := rf_inv eb6
  refine gRN_4_3 C kb5 (nf_26 C) rb6 (dk kX7_label 9 rfl) ?_
  refine g_iload_n C (i := 1) 1 rfl rfl (dk kX7_label 10 rfl) ?_
  obtain ⟨c7, h⟩ := gd_inv h
  obtain ⟨b8, eb8, h⟩ := bd_inv h
  obtain ⟨rb8, kb8⟩ := rf_inv eb8
  refine gA_10 C kb6 c7 rb8 (dk kX7_label 11 rfl) ?_
  refine g_iload_n C (i := 2) 2 rfl rfl (dk kX7_label 12 rfl) ?_
  obtain ⟨x10, eq9, h⟩ := bd_inv h
  refine g_callV C E.2 (rest := []) 1 (ct_X4_value kb8 eq9) wd_3_239 mm_X4_value ⟨rfl, by decide, by decide, by decide⟩ rfl (by decide) kb8 (by decide) rfl rfl (Nat.le_of_ble_eq_true rfl) (by decide) (dk kX7_label 13 rfl) ?_
  have h9 := Option.some.inj h
  subst h9
  exact g_iret C E rfl rfl (Nat.le_refl 0) (Nat.le_refl 0) (dk kX7_label 14 rfl)
theorem ct_X7_label {l : Launch} {Z : ZZ} {μ : Mm} {a0 : Nat} {a1 : Int32} {a2 : Int32} {r : Int32} (k0 : (zk Z a0).1 = 5) (h : f_X7_label (zk Z) μ a0 a1 a2 = some r) : CtM l Z false yX7_label cX7_label 3 (some .int) 3 0 0 [.ref (za Z a0), .int a1, .int a2] μ (some (.int r)) Z μ := ct_of rfl rfl (Nat.le_of_ble_eq_true rfl) (fun X C E => t_X7_label μ a0 a1 a2 r k0 h C E)

def qX7_price : List (Nat × Instr × Nat) := [(0, .aload_n 0, 1), (1, .getfield 28, 3), (4, .iload_n 1, 1), (5, .iload_n 2, 1), (6, .iload_n 3, 1), (7, .invokevirtual 148, 3), (10, .invokestatic 36, 3), (13, .aload_n 0, 1), (14, .getfield 28, 3), (17, .iload_n 1, 1), (18, .iload_n 2, 1), (19, .iload_n 3, 1), (20, .invokevirtual 151, 3), (23, .ifCond .eq 7, 3), (26, .iconst (-1), 1), (27, .goto 13, 3), (30, .aload_n 0, 1), (31, .getfield 28, 3), (34, .iload_n 1, 1), (35, .iload_n 2, 1), (36, .iload_n 3, 1), (37, .invokevirtual 154, 3), (40, .ireturn, 1)]
theorem kX7_price : ∀ q ∈ qX7_price, decode cX7_price q.1 = .ok q.2 := by decide +kernel
def f_X7_price (K : Nat → Nat × Nat) (μ : Mm) (a0 : Nat) (a1 : Int32) (a2 : Int32) (a3 : Int32) : Option (Int32) :=
  bd (rf K μ a0 3 4) fun b1 => bd (f_X5_whyNotAskAbout K μ b1 a1 a2 a3) fun x3 => bd (f_X7_refuse x3) fun q4 => bd (rf K μ a0 3 4) fun b5 => bd (f_X5_reasonAt K μ b5 a1 a2 a3) fun x7 => if x7 = 0 then (bd (rf K μ a0 3 4) fun b9 => bd (f_X5_priceAt K μ b9 a1 a2 a3) fun x11 => some x11) else (some (-1))
set_option maxRecDepth 100000 in
set_option maxHeartbeats 4000000 in
theorem t_X7_price {l : Launch} {Z : ZZ} {X : XX} (μ : Mm) (a0 : Nat) (a1 : Int32) (a2 : Int32) (a3 : Int32) (r : Int32) (k0 : (zk Z a0).1 = 5) (h : f_X7_price (zk Z) μ a0 a1 a2 a3 = some r) (C : Cx l Z false X cX7_price RX7 4 (some .int)) (E : Ex Z X 3 0 0 (some (.int r)) Z μ) : G Z X 4 0 0 0 [(0, .ref (za Z a0)), (1, .int a1), (2, .int a2), (3, .int a3)] [] μ := by
  unfold f_X7_price at h
  refine g_aload_n C (i := 0) 0 rfl rfl (dk kX7_price 0 rfl) ?_
  obtain ⟨b1, eb1, h⟩ := bd_inv h
  obtain ⟨rb1, kb1⟩ := rf_inv eb1
  refine gR_5_3 C k0 (C.w wd_1_203) rb1 (dk kX7_price 1 rfl) ?_
  refine g_iload_n C (i := 1) 1 rfl rfl (dk kX7_price 2 rfl) ?_
  refine g_iload_n C (i := 2) 2 rfl rfl (dk kX7_price 3 rfl) ?_
  refine g_iload_n C (i := 3) 3 rfl rfl (dk kX7_price 4 rfl) ?_
  obtain ⟨x3, eq2, h⟩ := bd_inv h
  refine g_callV C E.2 (rest := []) 3 (ct_X5_whyNotAskAbout kb1 eq2) wd_4_178 mm_X5_whyNotAskAbout ⟨rfl, by decide, by decide, by decide⟩ rfl (by decide) kb1 (by decide) rfl rfl (Nat.le_of_ble_eq_true rfl) (by decide) (dk kX7_price 5 rfl) ?_
  obtain ⟨q4, eq4, h⟩ := bd_inv h
  refine g_callS C E.2 (rest := []) 1 (ct_X7_refuse  eq4) wd_3_103 mm_X7_refuse ⟨by decide, by decide, by decide⟩ rfl (by decide) rfl (Nat.le_of_ble_eq_true rfl) (by decide) (dk kX7_price 6 rfl) ?_
  refine g_aload_n C (i := 0) 0 rfl rfl (dk kX7_price 7 rfl) ?_
  obtain ⟨b5, eb5, h⟩ := bd_inv h
  obtain ⟨rb5, kb5⟩ := rf_inv eb5
  refine gR_5_3 C k0 (C.w wd_1_203) rb5 (dk kX7_price 8 rfl) ?_
  refine g_iload_n C (i := 1) 1 rfl rfl (dk kX7_price 9 rfl) ?_
  refine g_iload_n C (i := 2) 2 rfl rfl (dk kX7_price 10 rfl) ?_
  refine g_iload_n C (i := 3) 3 rfl rfl (dk kX7_price 11 rfl) ?_
  obtain ⟨x7, eq6, h⟩ := bd_inv h
  refine g_callV C E.2 (rest := []) 3 (ct_X5_reasonAt kb5 eq6) wd_4_179 mm_X5_reasonAt ⟨rfl, by decide, by decide, by decide⟩ rfl (by decide) kb5 (by decide) rfl rfl (Nat.le_of_ble_eq_true rfl) (by decide) (dk kX7_price 12 rfl) ?_
  refine g_if_eq C (tgt := 30) (dk kX7_price 13 rfl) (by decide) (fun c8 => ?_) (fun c8 => ?_)
  · replace h := ite_t h c8
    refine g_aload_n C (i := 0) 0 rfl rfl (dk kX7_price 16 rfl) ?_
    obtain ⟨b9, eb9, h⟩ := bd_inv h
    obtain ⟨rb9, kb9⟩ := rf_inv eb9
    refine gR_5_3 C k0 (C.w wd_1_203) rb9 (dk kX7_price 17 rfl) ?_
    refine g_iload_n C (i := 1) 1 rfl rfl (dk kX7_price 18 rfl) ?_
    refine g_iload_n C (i := 2) 2 rfl rfl (dk kX7_price 19 rfl) ?_
    refine g_iload_n C (i := 3) 3 rfl rfl (dk kX7_price 20 rfl) ?_
    obtain ⟨x11, eq10, h⟩ := bd_inv h
    refine g_callV C E.2 (rest := []) 3 (ct_X5_priceAt kb9 eq10) wd_4_187 mm_X5_priceAt ⟨rfl, by decide, by decide, by decide⟩ rfl (by decide) kb9 (by decide) rfl rfl (Nat.le_of_ble_eq_true rfl) (by decide) (dk kX7_price 21 rfl) ?_
    have h9 := Option.some.inj h
    subst h9
    exact g_iret C E rfl rfl (Nat.le_refl 0) (Nat.le_refl 0) (dk kX7_price 22 rfl)
  · replace h := ite_f h c8
    refine g_iconst C (v := (-1)) (by decide) (dk kX7_price 14 rfl) ?_
    refine g_goto C (tgt := 40) (dk kX7_price 15 rfl) (by decide) ?_
    have h9 := Option.some.inj h
    subst h9
    exact g_iret C E rfl rfl (Nat.le_refl 0) (Nat.le_refl 0) (dk kX7_price 22 rfl)
theorem ct_X7_price {l : Launch} {Z : ZZ} {μ : Mm} {a0 : Nat} {a1 : Int32} {a2 : Int32} {a3 : Int32} {r : Int32} (k0 : (zk Z a0).1 = 5) (h : f_X7_price (zk Z) μ a0 a1 a2 a3 = some r) : CtM l Z false yX7_price cX7_price 4 (some .int) 3 0 0 [.ref (za Z a0), .int a1, .int a2, .int a3] μ (some (.int r)) Z μ := ct_of rfl rfl (Nat.le_of_ble_eq_true rfl) (fun X C E => t_X7_price μ a0 a1 a2 a3 r k0 h C E)

def qX7_print : List (Nat × Instr × Nat) := [(0, .aload_n 0, 1), (1, .getfield 28, 3), (4, .iload_n 1, 1), (5, .iload_n 2, 1), (6, .iload_n 3, 1), (7, .invokevirtual 97, 3), (10, .invokestatic 36, 3), (13, .aload_n 0, 1), (14, .invokevirtual 40, 3), (17, .aload_n 0, 1), (18, .getfield 28, 3), (21, .iload_n 1, 1), (22, .iload_n 2, 1), (23, .iload_n 3, 1), (24, .invokevirtual 100, 3), (27, .ireturn, 1)]
theorem kX7_print : ∀ q ∈ qX7_print, decode cX7_print q.1 = .ok q.2 := by decide +kernel
def f_X7_print (K : Nat → Nat × Nat) (μ : Mm) (a0 : Nat) (a1 : Int32) (a2 : Int32) (a3 : Int32) : Option (Int32 × Mm) :=
  bd (rf K μ a0 3 4) fun b1 => bd (f_X5_whyNotPrintAt K μ b1 a1 a2 a3) fun x3 => bd (f_X7_refuse x3) fun q4 => bd (f_X7_save K μ a0) fun μ6 => bd (rf K μ6 a0 3 4) fun b7 => bd (f_X5_printAt K μ6 b7 a1 a2 a3) fun q8 => lt1 q8.1 fun x10 => lt1 q8.2 fun μ9 => some (x10, μ9)
set_option maxRecDepth 100000 in
set_option maxHeartbeats 4000000 in
theorem t_X7_print {l : Launch} {Z : ZZ} {X : XX} (μ : Mm) (a0 : Nat) (a1 : Int32) (a2 : Int32) (a3 : Int32) (r : Int32) (μ' : Mm) (k0 : (zk Z a0).1 = 5) (h : f_X7_print (zk Z) μ a0 a1 a2 a3 = some (r, μ')) (C : Cx l Z false X cX7_print RX7 4 (some .int)) (E : Ex Z X 4 0 0 (some (.int r)) Z μ') : G Z X 4 0 0 0 [(0, .ref (za Z a0)), (1, .int a1), (2, .int a2), (3, .int a3)] [] μ := by
  unfold f_X7_print at h
  refine g_aload_n C (i := 0) 0 rfl rfl (dk kX7_print 0 rfl) ?_
  obtain ⟨b1, eb1, h⟩ := bd_inv h
  obtain ⟨rb1, kb1⟩ := rf_inv eb1
  refine gR_5_3 C k0 (C.w wd_1_203) rb1 (dk kX7_print 1 rfl) ?_
  refine g_iload_n C (i := 1) 1 rfl rfl (dk kX7_print 2 rfl) ?_
  refine g_iload_n C (i := 2) 2 rfl rfl (dk kX7_print 3 rfl) ?_
  refine g_iload_n C (i := 3) 3 rfl rfl (dk kX7_print 4 rfl) ?_
  obtain ⟨x3, eq2, h⟩ := bd_inv h
  refine g_callV C E.2 (rest := []) 3 (ct_X5_whyNotPrintAt kb1 eq2) wd_4_116 mm_X5_whyNotPrintAt ⟨rfl, by decide, by decide, by decide⟩ rfl (by decide) kb1 (by decide) rfl rfl (Nat.le_of_ble_eq_true rfl) (by decide) (dk kX7_print 5 rfl) ?_
  obtain ⟨q4, eq4, h⟩ := bd_inv h
  refine g_callS C E.2 (rest := []) 1 (ct_X7_refuse  eq4) wd_3_103 mm_X7_refuse ⟨by decide, by decide, by decide⟩ rfl (by decide) rfl (Nat.le_of_ble_eq_true rfl) (by decide) (dk kX7_print 6 rfl) ?_
  refine g_aload_n C (i := 0) 0 rfl rfl (dk kX7_print 7 rfl) ?_
  obtain ⟨μ6, eq5, h⟩ := bd_inv h
  refine g_callV C E.2 (rest := []) 0 (ct_X7_save k0 eq5) wd_2_83 mm_X7_save ⟨rfl, by decide, by decide, by decide⟩ rfl (by decide) k0 (by decide) rfl rfl (Nat.le_of_ble_eq_true rfl) (by decide) (dk kX7_print 8 rfl) ?_
  refine g_aload_n C (i := 0) 0 rfl rfl (dk kX7_print 9 rfl) ?_
  obtain ⟨b7, eb7, h⟩ := bd_inv h
  obtain ⟨rb7, kb7⟩ := rf_inv eb7
  refine gR_5_3 C k0 (C.w wd_1_203) rb7 (dk kX7_print 10 rfl) ?_
  refine g_iload_n C (i := 1) 1 rfl rfl (dk kX7_print 11 rfl) ?_
  refine g_iload_n C (i := 2) 2 rfl rfl (dk kX7_print 12 rfl) ?_
  refine g_iload_n C (i := 3) 3 rfl rfl (dk kX7_print 13 rfl) ?_
  obtain ⟨q8, eq8, h⟩ := bd_inv h
  obtain ⟨x10, ex10, h⟩ := lt_inv h
  obtain ⟨μ9, eμ9, h⟩ := lt_inv h
  rw [show q8 = (x10, μ9) from by rw [ex10, eμ9]] at eq8
  refine g_callV C E.2 (rest := []) 3 (ct_X5_printAt kb7 eq8) wd_4_117 mm_X5_printAt ⟨rfl, by decide, by decide, by decide⟩ rfl (by decide) kb7 (by decide) rfl rfl (Nat.le_of_ble_eq_true rfl) (by decide) (dk kX7_print 14 rfl) ?_
  obtain ⟨h8, h9⟩ := Prod.mk.inj (Option.some.inj h)
  subst h8
  subst h9
  exact g_iret C E rfl rfl (Nat.le_refl 0) (Nat.le_refl 0) (dk kX7_print 15 rfl)
theorem ct_X7_print {l : Launch} {Z : ZZ} {μ : Mm} {a0 : Nat} {a1 : Int32} {a2 : Int32} {a3 : Int32} {r : Int32} {μ' : Mm} (k0 : (zk Z a0).1 = 5) (h : f_X7_print (zk Z) μ a0 a1 a2 a3 = some (r, μ')) : CtM l Z false yX7_print cX7_print 4 (some .int) 4 0 0 [.ref (za Z a0), .int a1, .int a2, .int a3] μ (some (.int r)) Z μ' := ct_of rfl rfl (Nat.le_of_ble_eq_true rfl) (fun X C E => t_X7_print μ a0 a1 a2 a3 r μ' k0 h C E)

def qX7_printBest : List (Nat × Instr × Nat) := [(0, .aload_n 0, 1), (1, .getfield 28, 3), (4, .iload_n 1, 1), (5, .iload_n 2, 1), (6, .invokevirtual 103, 3), (9, .invokestatic 36, 3), (12, .aload_n 0, 1), (13, .invokevirtual 40, 3), (16, .aload_n 0, 1), (17, .getfield 28, 3), (20, .iload_n 1, 1), (21, .iload_n 2, 1), (22, .invokevirtual 106, 3), (25, .ireturn, 1)]
theorem kX7_printBest : ∀ q ∈ qX7_printBest, decode cX7_printBest q.1 = .ok q.2 := by decide +kernel
def f_X7_printBest (K : Nat → Nat × Nat) (μ : Mm) (a0 : Nat) (a1 : Int32) (a2 : Int32) : Option (Int32 × Mm) :=
  bd (rf K μ a0 3 4) fun b1 => bd (f_X5_whyNotPrintAtBest K μ b1 a1 a2) fun q2 => lt1 q2.1 fun x4 => lt1 q2.2 fun μ3 => bd (f_X7_refuse x4) fun q5 => bd (f_X7_save K μ3 a0) fun μ7 => bd (rf K μ7 a0 3 4) fun b8 => bd (f_X5_printAtBest K μ7 b8 a1 a2) fun q9 => lt1 q9.1 fun x11 => lt1 q9.2 fun μ10 => some (x11, μ10)
set_option maxRecDepth 100000 in
set_option maxHeartbeats 4000000 in
theorem t_X7_printBest {l : Launch} {Z : ZZ} {X : XX} (μ : Mm) (a0 : Nat) (a1 : Int32) (a2 : Int32) (r : Int32) (μ' : Mm) (k0 : (zk Z a0).1 = 5) (h : f_X7_printBest (zk Z) μ a0 a1 a2 = some (r, μ')) (C : Cx l Z false X cX7_printBest RX7 3 (some .int)) (E : Ex Z X 5 0 0 (some (.int r)) Z μ') : G Z X 3 0 0 0 [(0, .ref (za Z a0)), (1, .int a1), (2, .int a2)] [] μ := by
  unfold f_X7_printBest at h
  refine g_aload_n C (i := 0) 0 rfl rfl (dk kX7_printBest 0 rfl) ?_
  obtain ⟨b1, eb1, h⟩ := bd_inv h
  obtain ⟨rb1, kb1⟩ := rf_inv eb1
  refine gR_5_3 C k0 (C.w wd_1_203) rb1 (dk kX7_printBest 1 rfl) ?_
  refine g_iload_n C (i := 1) 1 rfl rfl (dk kX7_printBest 2 rfl) ?_
  refine g_iload_n C (i := 2) 2 rfl rfl (dk kX7_printBest 3 rfl) ?_
  obtain ⟨q2, eq2, h⟩ := bd_inv h
  obtain ⟨x4, ex4, h⟩ := lt_inv h
  obtain ⟨μ3, eμ3, h⟩ := lt_inv h
  rw [show q2 = (x4, μ3) from by rw [ex4, eμ3]] at eq2
  refine g_callV C E.2 (rest := []) 2 (ct_X5_whyNotPrintAtBest kb1 eq2) wd_4_125 mm_X5_whyNotPrintAtBest ⟨rfl, by decide, by decide, by decide⟩ rfl (by decide) kb1 (by decide) rfl rfl (Nat.le_of_ble_eq_true rfl) (by decide) (dk kX7_printBest 4 rfl) ?_
  obtain ⟨q5, eq5, h⟩ := bd_inv h
  refine g_callS C E.2 (rest := []) 1 (ct_X7_refuse  eq5) wd_3_103 mm_X7_refuse ⟨by decide, by decide, by decide⟩ rfl (by decide) rfl (Nat.le_of_ble_eq_true rfl) (by decide) (dk kX7_printBest 5 rfl) ?_
  refine g_aload_n C (i := 0) 0 rfl rfl (dk kX7_printBest 6 rfl) ?_
  obtain ⟨μ7, eq6, h⟩ := bd_inv h
  refine g_callV C E.2 (rest := []) 0 (ct_X7_save k0 eq6) wd_2_83 mm_X7_save ⟨rfl, by decide, by decide, by decide⟩ rfl (by decide) k0 (by decide) rfl rfl (Nat.le_of_ble_eq_true rfl) (by decide) (dk kX7_printBest 7 rfl) ?_
  refine g_aload_n C (i := 0) 0 rfl rfl (dk kX7_printBest 8 rfl) ?_
  obtain ⟨b8, eb8, h⟩ := bd_inv h
  obtain ⟨rb8, kb8⟩ := rf_inv eb8
  refine gR_5_3 C k0 (C.w wd_1_203) rb8 (dk kX7_printBest 9 rfl) ?_
  refine g_iload_n C (i := 1) 1 rfl rfl (dk kX7_printBest 10 rfl) ?_
  refine g_iload_n C (i := 2) 2 rfl rfl (dk kX7_printBest 11 rfl) ?_
  obtain ⟨q9, eq9, h⟩ := bd_inv h
  obtain ⟨x11, ex11, h⟩ := lt_inv h
  obtain ⟨μ10, eμ10, h⟩ := lt_inv h
  rw [show q9 = (x11, μ10) from by rw [ex11, eμ10]] at eq9
  refine g_callV C E.2 (rest := []) 2 (ct_X5_printAtBest kb8 eq9) wd_4_126 mm_X5_printAtBest ⟨rfl, by decide, by decide, by decide⟩ rfl (by decide) kb8 (by decide) rfl rfl (Nat.le_of_ble_eq_true rfl) (by decide) (dk kX7_printBest 12 rfl) ?_
  obtain ⟨h8, h9⟩ := Prod.mk.inj (Option.some.inj h)
  subst h8
  subst h9
  exact g_iret C E rfl rfl (Nat.le_refl 0) (Nat.le_refl 0) (dk kX7_printBest 13 rfl)
theorem ct_X7_printBest {l : Launch} {Z : ZZ} {μ : Mm} {a0 : Nat} {a1 : Int32} {a2 : Int32} {r : Int32} {μ' : Mm} (k0 : (zk Z a0).1 = 5) (h : f_X7_printBest (zk Z) μ a0 a1 a2 = some (r, μ')) : CtM l Z false yX7_printBest cX7_printBest 3 (some .int) 5 0 0 [.ref (za Z a0), .int a1, .int a2] μ (some (.int r)) Z μ' := ct_of rfl rfl (Nat.le_of_ble_eq_true rfl) (fun X C E => t_X7_printBest μ a0 a1 a2 r μ' k0 h C E)

def qX7_readableFor : List (Nat × Instr × Nat) := [(0, .aload_n 0, 1), (1, .getfield 28, 3), (4, .iload_n 1, 1), (5, .iload_n 2, 1), (6, .iload_n 3, 1), (7, .invokevirtual 148, 3), (10, .invokestatic 36, 3), (13, .aload_n 0, 1), (14, .getfield 28, 3), (17, .iload_n 1, 1), (18, .iload_n 2, 1), (19, .iload_n 3, 1), (20, .invokevirtual 151, 3), (23, .ifCond .eq 7, 3), (26, .iconst (-1), 1), (27, .goto 12, 3), (30, .aload_n 0, 1), (31, .getfield 28, 3), (34, .iload_n 2, 1), (35, .iload_n 3, 1), (36, .invokevirtual 166, 3), (39, .ireturn, 1)]
theorem kX7_readableFor : ∀ q ∈ qX7_readableFor, decode cX7_readableFor q.1 = .ok q.2 := by decide +kernel
def f_X7_readableFor (K : Nat → Nat × Nat) (μ : Mm) (a0 : Nat) (a1 : Int32) (a2 : Int32) (a3 : Int32) : Option (Int32 × Mm) :=
  bd (rf K μ a0 3 4) fun b1 => bd (f_X5_whyNotAskAbout K μ b1 a1 a2 a3) fun x3 => bd (f_X7_refuse x3) fun q4 => bd (rf K μ a0 3 4) fun b5 => bd (f_X5_reasonAt K μ b5 a1 a2 a3) fun x7 => if x7 = 0 then (bd (rf K μ a0 3 4) fun b9 => bd (f_X5_readableAt K μ b9 a2 a3) fun q10 => lt1 q10.1 fun x12 => lt1 q10.2 fun μ11 => some (x12, μ11)) else (some ((-1), μ))
set_option maxRecDepth 100000 in
set_option maxHeartbeats 4000000 in
theorem t_X7_readableFor {l : Launch} {Z : ZZ} {X : XX} (μ : Mm) (a0 : Nat) (a1 : Int32) (a2 : Int32) (a3 : Int32) (r : Int32) (μ' : Mm) (k0 : (zk Z a0).1 = 5) (h : f_X7_readableFor (zk Z) μ a0 a1 a2 a3 = some (r, μ')) (C : Cx l Z false X cX7_readableFor RX7 4 (some .int)) (E : Ex Z X 3 0 0 (some (.int r)) Z μ') : G Z X 4 0 0 0 [(0, .ref (za Z a0)), (1, .int a1), (2, .int a2), (3, .int a3)] [] μ := by
  unfold f_X7_readableFor at h
  refine g_aload_n C (i := 0) 0 rfl rfl (dk kX7_readableFor 0 rfl) ?_
  obtain ⟨b1, eb1, h⟩ := bd_inv h
  obtain ⟨rb1, kb1⟩ := rf_inv eb1
  refine gR_5_3 C k0 (C.w wd_1_203) rb1 (dk kX7_readableFor 1 rfl) ?_
  refine g_iload_n C (i := 1) 1 rfl rfl (dk kX7_readableFor 2 rfl) ?_
  refine g_iload_n C (i := 2) 2 rfl rfl (dk kX7_readableFor 3 rfl) ?_
  refine g_iload_n C (i := 3) 3 rfl rfl (dk kX7_readableFor 4 rfl) ?_
  obtain ⟨x3, eq2, h⟩ := bd_inv h
  refine g_callV C E.2 (rest := []) 3 (ct_X5_whyNotAskAbout kb1 eq2) wd_4_178 mm_X5_whyNotAskAbout ⟨rfl, by decide, by decide, by decide⟩ rfl (by decide) kb1 (by decide) rfl rfl (Nat.le_of_ble_eq_true rfl) (by decide) (dk kX7_readableFor 5 rfl) ?_
  obtain ⟨q4, eq4, h⟩ := bd_inv h
  refine g_callS C E.2 (rest := []) 1 (ct_X7_refuse  eq4) wd_3_103 mm_X7_refuse ⟨by decide, by decide, by decide⟩ rfl (by decide) rfl (Nat.le_of_ble_eq_true rfl) (by decide) (dk kX7_readableFor 6 rfl) ?_
  refine g_aload_n C (i := 0) 0 rfl rfl (dk kX7_readableFor 7 rfl) ?_
  obtain ⟨b5, eb5, h⟩ := bd_inv h
  obtain ⟨rb5, kb5⟩ := rf_inv eb5
  refine gR_5_3 C k0 (C.w wd_1_203) rb5 (dk kX7_readableFor 8 rfl) ?_
  refine g_iload_n C (i := 1) 1 rfl rfl (dk kX7_readableFor 9 rfl) ?_
  refine g_iload_n C (i := 2) 2 rfl rfl (dk kX7_readableFor 10 rfl) ?_
  refine g_iload_n C (i := 3) 3 rfl rfl (dk kX7_readableFor 11 rfl) ?_
  obtain ⟨x7, eq6, h⟩ := bd_inv h
  refine g_callV C E.2 (rest := []) 3 (ct_X5_reasonAt kb5 eq6) wd_4_179 mm_X5_reasonAt ⟨rfl, by decide, by decide, by decide⟩ rfl (by decide) kb5 (by decide) rfl rfl (Nat.le_of_ble_eq_true rfl) (by decide) (dk kX7_readableFor 12 rfl) ?_
  refine g_if_eq C (tgt := 30) (dk kX7_readableFor 13 rfl) (by decide) (fun c8 => ?_) (fun c8 => ?_)
  · replace h := ite_t h c8
    refine g_aload_n C (i := 0) 0 rfl rfl (dk kX7_readableFor 16 rfl) ?_
    obtain ⟨b9, eb9, h⟩ := bd_inv h
    obtain ⟨rb9, kb9⟩ := rf_inv eb9
    refine gR_5_3 C k0 (C.w wd_1_203) rb9 (dk kX7_readableFor 17 rfl) ?_
    refine g_iload_n C (i := 2) 2 rfl rfl (dk kX7_readableFor 18 rfl) ?_
    refine g_iload_n C (i := 3) 3 rfl rfl (dk kX7_readableFor 19 rfl) ?_
    obtain ⟨q10, eq10, h⟩ := bd_inv h
    obtain ⟨x12, ex12, h⟩ := lt_inv h
    obtain ⟨μ11, eμ11, h⟩ := lt_inv h
    rw [show q10 = (x12, μ11) from by rw [ex12, eμ11]] at eq10
    refine g_callV C E.2 (rest := []) 2 (ct_X5_readableAt kb9 eq10) wd_4_211 mm_X5_readableAt ⟨rfl, by decide, by decide, by decide⟩ rfl (by decide) kb9 (by decide) rfl rfl (Nat.le_of_ble_eq_true rfl) (by decide) (dk kX7_readableFor 20 rfl) ?_
    obtain ⟨h8, h9⟩ := Prod.mk.inj (Option.some.inj h)
    subst h8
    subst h9
    exact g_iret C E rfl rfl (Nat.le_refl 0) (Nat.le_refl 0) (dk kX7_readableFor 21 rfl)
  · replace h := ite_f h c8
    refine g_iconst C (v := (-1)) (by decide) (dk kX7_readableFor 14 rfl) ?_
    refine g_goto C (tgt := 39) (dk kX7_readableFor 15 rfl) (by decide) ?_
    obtain ⟨h8, h9⟩ := Prod.mk.inj (Option.some.inj h)
    subst h8
    subst h9
    exact g_iret C E rfl rfl (Nat.le_refl 0) (Nat.le_refl 0) (dk kX7_readableFor 21 rfl)
theorem ct_X7_readableFor {l : Launch} {Z : ZZ} {μ : Mm} {a0 : Nat} {a1 : Int32} {a2 : Int32} {a3 : Int32} {r : Int32} {μ' : Mm} (k0 : (zk Z a0).1 = 5) (h : f_X7_readableFor (zk Z) μ a0 a1 a2 a3 = some (r, μ')) : CtM l Z false yX7_readableFor cX7_readableFor 4 (some .int) 3 0 0 [.ref (za Z a0), .int a1, .int a2, .int a3] μ (some (.int r)) Z μ' := ct_of rfl rfl (Nat.le_of_ble_eq_true rfl) (fun X C E => t_X7_readableFor μ a0 a1 a2 a3 r μ' k0 h C E)

def qX7_reason : List (Nat × Instr × Nat) := [(0, .aload_n 0, 1), (1, .getfield 28, 3), (4, .iload_n 1, 1), (5, .iload_n 2, 1), (6, .iload_n 3, 1), (7, .invokevirtual 148, 3), (10, .invokestatic 36, 3), (13, .aload_n 0, 1), (14, .getfield 28, 3), (17, .iload_n 1, 1), (18, .iload_n 2, 1), (19, .iload_n 3, 1), (20, .invokevirtual 151, 3), (23, .ireturn, 1)]
theorem kX7_reason : ∀ q ∈ qX7_reason, decode cX7_reason q.1 = .ok q.2 := by decide +kernel
def f_X7_reason (K : Nat → Nat × Nat) (μ : Mm) (a0 : Nat) (a1 : Int32) (a2 : Int32) (a3 : Int32) : Option (Int32) :=
  bd (rf K μ a0 3 4) fun b1 => bd (f_X5_whyNotAskAbout K μ b1 a1 a2 a3) fun x3 => bd (f_X7_refuse x3) fun q4 => bd (rf K μ a0 3 4) fun b5 => bd (f_X5_reasonAt K μ b5 a1 a2 a3) fun x7 => some x7
set_option maxRecDepth 100000 in
set_option maxHeartbeats 4000000 in
theorem t_X7_reason {l : Launch} {Z : ZZ} {X : XX} (μ : Mm) (a0 : Nat) (a1 : Int32) (a2 : Int32) (a3 : Int32) (r : Int32) (k0 : (zk Z a0).1 = 5) (h : f_X7_reason (zk Z) μ a0 a1 a2 a3 = some r) (C : Cx l Z false X cX7_reason RX7 4 (some .int)) (E : Ex Z X 3 0 0 (some (.int r)) Z μ) : G Z X 4 0 0 0 [(0, .ref (za Z a0)), (1, .int a1), (2, .int a2), (3, .int a3)] [] μ := by
  unfold f_X7_reason at h
  refine g_aload_n C (i := 0) 0 rfl rfl (dk kX7_reason 0 rfl) ?_
  obtain ⟨b1, eb1, h⟩ := bd_inv h
  obtain ⟨rb1, kb1⟩ := rf_inv eb1
  refine gR_5_3 C k0 (C.w wd_1_203) rb1 (dk kX7_reason 1 rfl) ?_
  refine g_iload_n C (i := 1) 1 rfl rfl (dk kX7_reason 2 rfl) ?_
  refine g_iload_n C (i := 2) 2 rfl rfl (dk kX7_reason 3 rfl) ?_
  refine g_iload_n C (i := 3) 3 rfl rfl (dk kX7_reason 4 rfl) ?_
  obtain ⟨x3, eq2, h⟩ := bd_inv h
  refine g_callV C E.2 (rest := []) 3 (ct_X5_whyNotAskAbout kb1 eq2) wd_4_178 mm_X5_whyNotAskAbout ⟨rfl, by decide, by decide, by decide⟩ rfl (by decide) kb1 (by decide) rfl rfl (Nat.le_of_ble_eq_true rfl) (by decide) (dk kX7_reason 5 rfl) ?_
  obtain ⟨q4, eq4, h⟩ := bd_inv h
  refine g_callS C E.2 (rest := []) 1 (ct_X7_refuse  eq4) wd_3_103 mm_X7_refuse ⟨by decide, by decide, by decide⟩ rfl (by decide) rfl (Nat.le_of_ble_eq_true rfl) (by decide) (dk kX7_reason 6 rfl) ?_
  refine g_aload_n C (i := 0) 0 rfl rfl (dk kX7_reason 7 rfl) ?_
  obtain ⟨b5, eb5, h⟩ := bd_inv h
  obtain ⟨rb5, kb5⟩ := rf_inv eb5
  refine gR_5_3 C k0 (C.w wd_1_203) rb5 (dk kX7_reason 8 rfl) ?_
  refine g_iload_n C (i := 1) 1 rfl rfl (dk kX7_reason 9 rfl) ?_
  refine g_iload_n C (i := 2) 2 rfl rfl (dk kX7_reason 10 rfl) ?_
  refine g_iload_n C (i := 3) 3 rfl rfl (dk kX7_reason 11 rfl) ?_
  obtain ⟨x7, eq6, h⟩ := bd_inv h
  refine g_callV C E.2 (rest := []) 3 (ct_X5_reasonAt kb5 eq6) wd_4_179 mm_X5_reasonAt ⟨rfl, by decide, by decide, by decide⟩ rfl (by decide) kb5 (by decide) rfl rfl (Nat.le_of_ble_eq_true rfl) (by decide) (dk kX7_reason 12 rfl) ?_
  have h9 := Option.some.inj h
  subst h9
  exact g_iret C E rfl rfl (Nat.le_refl 0) (Nat.le_refl 0) (dk kX7_reason 13 rfl)
theorem ct_X7_reason {l : Launch} {Z : ZZ} {μ : Mm} {a0 : Nat} {a1 : Int32} {a2 : Int32} {a3 : Int32} {r : Int32} (k0 : (zk Z a0).1 = 5) (h : f_X7_reason (zk Z) μ a0 a1 a2 a3 = some r) : CtM l Z false yX7_reason cX7_reason 4 (some .int) 3 0 0 [.ref (za Z a0), .int a1, .int a2, .int a3] μ (some (.int r)) Z μ := ct_of rfl rfl (Nat.le_of_ble_eq_true rfl) (fun X C E => t_X7_reason μ a0 a1 a2 a3 r k0 h C E)

def qX7_rent : List (Nat × Instr × Nat) := [(0, .aload_n 0, 1), (1, .getfield 28, 3), (4, .iload_n 1, 1), (5, .iload_n 2, 1), (6, .iload_n 3, 1), (7, .invokevirtual 85, 3), (10, .invokestatic 36, 3), (13, .aload_n 0, 1), (14, .invokevirtual 40, 3), (17, .aload_n 0, 1), (18, .getfield 28, 3), (21, .iload_n 1, 1), (22, .iload_n 2, 1), (23, .iload_n 3, 1), (24, .invokevirtual 88, 3), (27, .ireturn, 1)]
theorem kX7_rent : ∀ q ∈ qX7_rent, decode cX7_rent q.1 = .ok q.2 := by decide +kernel
def f_X7_rent (K : Nat → Nat × Nat) (μ : Mm) (a0 : Nat) (a1 : Int32) (a2 : Int32) (a3 : Int32) : Option (Int32 × Mm) :=
  bd (rf K μ a0 3 4) fun b1 => bd (f_X5_whyNotLet K μ b1 a1 a2 a3) fun x3 => bd (f_X7_refuse x3) fun q4 => bd (f_X7_save K μ a0) fun μ6 => bd (rf K μ6 a0 3 4) fun b7 => bd (f_X5_let K μ6 b7 a1 a2 a3) fun q8 => lt1 q8.1 fun x10 => lt1 q8.2 fun μ9 => some (x10, μ9)
set_option maxRecDepth 100000 in
set_option maxHeartbeats 4000000 in
theorem t_X7_rent {l : Launch} {Z : ZZ} {X : XX} (μ : Mm) (a0 : Nat) (a1 : Int32) (a2 : Int32) (a3 : Int32) (r : Int32) (μ' : Mm) (k0 : (zk Z a0).1 = 5) (h : f_X7_rent (zk Z) μ a0 a1 a2 a3 = some (r, μ')) (C : Cx l Z false X cX7_rent RX7 4 (some .int)) (E : Ex Z X 4 0 0 (some (.int r)) Z μ') : G Z X 4 0 0 0 [(0, .ref (za Z a0)), (1, .int a1), (2, .int a2), (3, .int a3)] [] μ := by
  unfold f_X7_rent at h
  refine g_aload_n C (i := 0) 0 rfl rfl (dk kX7_rent 0 rfl) ?_
  obtain ⟨b1, eb1, h⟩ := bd_inv h
  obtain ⟨rb1, kb1⟩ := rf_inv eb1
  refine gR_5_3 C k0 (C.w wd_1_203) rb1 (dk kX7_rent 1 rfl) ?_
  refine g_iload_n C (i := 1) 1 rfl rfl (dk kX7_rent 2 rfl) ?_
  refine g_iload_n C (i := 2) 2 rfl rfl (dk kX7_rent 3 rfl) ?_
  refine g_iload_n C (i := 3) 3 rfl rfl (dk kX7_rent 4 rfl) ?_
  obtain ⟨x3, eq2, h⟩ := bd_inv h
  refine g_callV C E.2 (rest := []) 3 (ct_X5_whyNotLet kb1 eq2) wd_4_92 mm_X5_whyNotLet ⟨rfl, by decide, by decide, by decide⟩ rfl (by decide) kb1 (by decide) rfl rfl (Nat.le_of_ble_eq_true rfl) (by decide) (dk kX7_rent 5 rfl) ?_
  obtain ⟨q4, eq4, h⟩ := bd_inv h
  refine g_callS C E.2 (rest := []) 1 (ct_X7_refuse  eq4) wd_3_103 mm_X7_refuse ⟨by decide, by decide, by decide⟩ rfl (by decide) rfl (Nat.le_of_ble_eq_true rfl) (by decide) (dk kX7_rent 6 rfl) ?_
  refine g_aload_n C (i := 0) 0 rfl rfl (dk kX7_rent 7 rfl) ?_
  obtain ⟨μ6, eq5, h⟩ := bd_inv h
  refine g_callV C E.2 (rest := []) 0 (ct_X7_save k0 eq5) wd_2_83 mm_X7_save ⟨rfl, by decide, by decide, by decide⟩ rfl (by decide) k0 (by decide) rfl rfl (Nat.le_of_ble_eq_true rfl) (by decide) (dk kX7_rent 8 rfl) ?_
  refine g_aload_n C (i := 0) 0 rfl rfl (dk kX7_rent 9 rfl) ?_
  obtain ⟨b7, eb7, h⟩ := bd_inv h
  obtain ⟨rb7, kb7⟩ := rf_inv eb7
  refine gR_5_3 C k0 (C.w wd_1_203) rb7 (dk kX7_rent 10 rfl) ?_
  refine g_iload_n C (i := 1) 1 rfl rfl (dk kX7_rent 11 rfl) ?_
  refine g_iload_n C (i := 2) 2 rfl rfl (dk kX7_rent 12 rfl) ?_
  refine g_iload_n C (i := 3) 3 rfl rfl (dk kX7_rent 13 rfl) ?_
  obtain ⟨q8, eq8, h⟩ := bd_inv h
  obtain ⟨x10, ex10, h⟩ := lt_inv h
  obtain ⟨μ9, eμ9, h⟩ := lt_inv h
  rw [show q8 = (x10, μ9) from by rw [ex10, eμ9]] at eq8
  refine g_callV C E.2 (rest := []) 3 (ct_X5_let kb7 eq8) wd_4_93 mm_X5_let ⟨rfl, by decide, by decide, by decide⟩ rfl (by decide) kb7 (by decide) rfl rfl (Nat.le_of_ble_eq_true rfl) (by decide) (dk kX7_rent 14 rfl) ?_
  obtain ⟨h8, h9⟩ := Prod.mk.inj (Option.some.inj h)
  subst h8
  subst h9
  exact g_iret C E rfl rfl (Nat.le_refl 0) (Nat.le_refl 0) (dk kX7_rent 15 rfl)
theorem ct_X7_rent {l : Launch} {Z : ZZ} {μ : Mm} {a0 : Nat} {a1 : Int32} {a2 : Int32} {a3 : Int32} {r : Int32} {μ' : Mm} (k0 : (zk Z a0).1 = 5) (h : f_X7_rent (zk Z) μ a0 a1 a2 a3 = some (r, μ')) : CtM l Z false yX7_rent cX7_rent 4 (some .int) 4 0 0 [.ref (za Z a0), .int a1, .int a2, .int a3] μ (some (.int r)) Z μ' := ct_of rfl rfl (Nat.le_of_ble_eq_true rfl) (fun X C E => t_X7_rent μ a0 a1 a2 a3 r μ' k0 h C E)

def qX7_replace : List (Nat × Instr × Nat) := [(0, .aload_n 0, 1), (1, .getfield 28, 3), (4, .iload_n 1, 1), (5, .invokevirtual 66, 3), (8, .invokestatic 36, 3), (11, .aload_n 0, 1), (12, .invokevirtual 40, 3), (15, .aload_n 0, 1), (16, .getfield 28, 3), (19, .iload_n 1, 1), (20, .invokevirtual 69, 3), (23, .ireturn, 1)]
theorem kX7_replace : ∀ q ∈ qX7_replace, decode cX7_replace q.1 = .ok q.2 := by decide +kernel
def f_X7_replace (K : Nat → Nat × Nat) (μ : Mm) (a0 : Nat) (a1 : Int32) : Option (Int32 × Mm) :=
  bd (rf K μ a0 3 4) fun b1 => bd (f_X5_whyNotNewDot K μ b1 a1) fun x3 => bd (f_X7_refuse x3) fun q4 => bd (f_X7_save K μ a0) fun μ6 => bd (rf K μ6 a0 3 4) fun b7 => bd (f_X5_newDot K μ6 b7 a1) fun q8 => lt1 q8.1 fun x10 => lt1 q8.2 fun μ9 => some (x10, μ9)
set_option maxRecDepth 100000 in
set_option maxHeartbeats 4000000 in
theorem t_X7_replace {l : Launch} {Z : ZZ} {X : XX} (μ : Mm) (a0 : Nat) (a1 : Int32) (r : Int32) (μ' : Mm) (k0 : (zk Z a0).1 = 5) (h : f_X7_replace (zk Z) μ a0 a1 = some (r, μ')) (C : Cx l Z false X cX7_replace RX7 2 (some .int)) (E : Ex Z X 4 0 0 (some (.int r)) Z μ') : G Z X 2 0 0 0 [(0, .ref (za Z a0)), (1, .int a1)] [] μ := by
  unfold f_X7_replace at h
  refine g_aload_n C (i := 0) 0 rfl rfl (dk kX7_replace 0 rfl) ?_
  obtain ⟨b1, eb1, h⟩ := bd_inv h
  obtain ⟨rb1, kb1⟩ := rf_inv eb1
  refine gR_5_3 C k0 (C.w wd_1_203) rb1 (dk kX7_replace 1 rfl) ?_
  refine g_iload_n C (i := 1) 1 rfl rfl (dk kX7_replace 2 rfl) ?_
  obtain ⟨x3, eq2, h⟩ := bd_inv h
  refine g_callV C E.2 (rest := []) 1 (ct_X5_whyNotNewDot kb1 eq2) wd_4_65 mm_X5_whyNotNewDot ⟨rfl, by decide, by decide, by decide⟩ rfl (by decide) kb1 (by decide) rfl rfl (Nat.le_of_ble_eq_true rfl) (by decide) (dk kX7_replace 3 rfl) ?_
  obtain ⟨q4, eq4, h⟩ := bd_inv h
  refine g_callS C E.2 (rest := []) 1 (ct_X7_refuse  eq4) wd_3_103 mm_X7_refuse ⟨by decide, by decide, by decide⟩ rfl (by decide) rfl (Nat.le_of_ble_eq_true rfl) (by decide) (dk kX7_replace 4 rfl) ?_
  refine g_aload_n C (i := 0) 0 rfl rfl (dk kX7_replace 5 rfl) ?_
  obtain ⟨μ6, eq5, h⟩ := bd_inv h
  refine g_callV C E.2 (rest := []) 0 (ct_X7_save k0 eq5) wd_2_83 mm_X7_save ⟨rfl, by decide, by decide, by decide⟩ rfl (by decide) k0 (by decide) rfl rfl (Nat.le_of_ble_eq_true rfl) (by decide) (dk kX7_replace 6 rfl) ?_
  refine g_aload_n C (i := 0) 0 rfl rfl (dk kX7_replace 7 rfl) ?_
  obtain ⟨b7, eb7, h⟩ := bd_inv h
  obtain ⟨rb7, kb7⟩ := rf_inv eb7
  refine gR_5_3 C k0 (C.w wd_1_203) rb7 (dk kX7_replace 8 rfl) ?_
  refine g_iload_n C (i := 1) 1 rfl rfl (dk kX7_replace 9 rfl) ?_
  obtain ⟨q8, eq8, h⟩ := bd_inv h
  obtain ⟨x10, ex10, h⟩ := lt_inv h
  obtain ⟨μ9, eμ9, h⟩ := lt_inv h
  rw [show q8 = (x10, μ9) from by rw [ex10, eμ9]] at eq8
  refine g_callV C E.2 (rest := []) 1 (ct_X5_newDot kb7 eq8) wd_4_66 mm_X5_newDot ⟨rfl, by decide, by decide, by decide⟩ rfl (by decide) kb7 (by decide) rfl rfl (Nat.le_of_ble_eq_true rfl) (by decide) (dk kX7_replace 10 rfl) ?_
  obtain ⟨h8, h9⟩ := Prod.mk.inj (Option.some.inj h)
  subst h8
  subst h9
  exact g_iret C E rfl rfl (Nat.le_refl 0) (Nat.le_refl 0) (dk kX7_replace 11 rfl)
theorem ct_X7_replace {l : Launch} {Z : ZZ} {μ : Mm} {a0 : Nat} {a1 : Int32} {r : Int32} {μ' : Mm} (k0 : (zk Z a0).1 = 5) (h : f_X7_replace (zk Z) μ a0 a1 = some (r, μ')) : CtM l Z false yX7_replace cX7_replace 2 (some .int) 4 0 0 [.ref (za Z a0), .int a1] μ (some (.int r)) Z μ' := ct_of rfl rfl (Nat.le_of_ble_eq_true rfl) (fun X C E => t_X7_replace μ a0 a1 r μ' k0 h C E)

def qX7_row : List (Nat × Instr × Nat) := [(0, .aload_n 0, 1), (1, .getfield 28, 3), (4, .iload_n 1, 1), (5, .iload_n 2, 1), (6, .bipush 6, 2), (8, .invokevirtual 115, 3), (11, .invokestatic 36, 3), (14, .aload_n 0, 1), (15, .getfield 28, 3), (18, .getfield 118, 3), (21, .iload_n 1, 1), (22, .aaload, 1), (23, .getfield 127, 3), (26, .iload_n 2, 1), (27, .iaload, 1), (28, .ireturn, 1)]
theorem kX7_row : ∀ q ∈ qX7_row, decode cX7_row q.1 = .ok q.2 := by decide +kernel
def f_X7_row (K : Nat → Nat × Nat) (μ : Mm) (a0 : Nat) (a1 : Int32) (a2 : Int32) : Option (Int32) :=
  bd (rf K μ a0 3 4) fun b1 => bd (f_X5_whyNotLabelValue K μ b1 a1 a2 6) fun x3 => bd (f_X7_refuse x3) fun q4 => bd (rf K μ a0 3 4) fun b5 => bd (rf K μ b5 3 10) fun b6 => gd (inb a1 (K b6).2) <| bd (rf K μ b6 (ix a1) 3) fun b8 => bd (rf K μ b8 4 8) fun b9 => gd (inb a2 (K b9).2) <| some (μ.1 b9 (ix a2))
set_option maxRecDepth 100000 in
set_option maxHeartbeats 4000000 in
theorem t_X7_row {l : Launch} {Z : ZZ} {X : XX} (μ : Mm) (a0 : Nat) (a1 : Int32) (a2 : Int32) (r : Int32) (k0 : (zk Z a0).1 = 5) (h : f_X7_row (zk Z) μ a0 a1 a2 = some r) (C : Cx l Z false X cX7_row RX7 3 (some .int)) (E : Ex Z X 2 0 0 (some (.int r)) Z μ) : G Z X 3 0 0 0 [(0, .ref (za Z a0)), (1, .int a1), (2, .int a2)] [] μ := by
  unfold f_X7_row at h
  refine g_aload_n C (i := 0) 0 rfl rfl (dk kX7_row 0 rfl) ?_
  obtain ⟨b1, eb1, h⟩ := bd_inv h
  obtain ⟨rb1, kb1⟩ := rf_inv eb1
  refine gR_5_3 C k0 (C.w wd_1_203) rb1 (dk kX7_row 1 rfl) ?_
  refine g_iload_n C (i := 1) 1 rfl rfl (dk kX7_row 2 rfl) ?_
  refine g_iload_n C (i := 2) 2 rfl rfl (dk kX7_row 3 rfl) ?_
  refine g_bipush C (v := 6) (by decide) (dk kX7_row 4 rfl) ?_
  obtain ⟨x3, eq2, h⟩ := bd_inv h
  refine g_callV C E.2 (rest := []) 3 (ct_X5_whyNotLabelValue kb1 eq2) wd_4_145 mm_X5_whyNotLabelValue ⟨rfl, by decide, by decide, by decide⟩ rfl (by decide) kb1 (by decide) rfl rfl (Nat.le_of_ble_eq_true rfl) (by decide) (dk kX7_row 5 rfl) ?_
  obtain ⟨q4, eq4, h⟩ := bd_inv h
  refine g_callS C E.2 (rest := []) 1 (ct_X7_refuse  eq4) wd_3_103 mm_X7_refuse ⟨by decide, by decide, by decide⟩ rfl (by decide) rfl (Nat.le_of_ble_eq_true rfl) (by decide) (dk kX7_row 6 rfl) ?_
  refine g_aload_n C (i := 0) 0 rfl rfl (dk kX7_row 7 rfl) ?_
  obtain ⟨b5, eb5, h⟩ := bd_inv h
  obtain ⟨rb5, kb5⟩ := rf_inv eb5
  refine gR_5_3 C k0 (C.w wd_1_203) rb5 (dk kX7_row 8 rfl) ?_
  obtain ⟨b6, eb6, h⟩ := bd_inv h
  obtain ⟨rb6, kb6⟩ := rf_inv eb6
  refine gRN_4_3 C kb5 (nf_26 C) rb6 (dk kX7_row 9 rfl) ?_
  refine g_iload_n C (i := 1) 1 rfl rfl (dk kX7_row 10 rfl) ?_
  obtain ⟨c7, h⟩ := gd_inv h
  obtain ⟨b8, eb8, h⟩ := bd_inv h
  obtain ⟨rb8, kb8⟩ := rf_inv eb8
  refine gA_10 C kb6 c7 rb8 (dk kX7_row 11 rfl) ?_
  obtain ⟨b9, eb9, h⟩ := bd_inv h
  obtain ⟨rb9, kb9⟩ := rf_inv eb9
  refine gRN_3_4 C kb8 (nf_18 C) rb9 (dk kX7_row 12 rfl) ?_
  refine g_iload_n C (i := 2) 2 rfl rfl (dk kX7_row 13 rfl) ?_
  obtain ⟨c10, h⟩ := gd_inv h
  refine g_iald C kb9 c10 (dk kX7_row 14 rfl) ?_
  have h9 := Option.some.inj h
  subst h9
  exact g_iret C E rfl rfl (Nat.le_refl 0) (Nat.le_refl 0) (dk kX7_row 15 rfl)
theorem ct_X7_row {l : Launch} {Z : ZZ} {μ : Mm} {a0 : Nat} {a1 : Int32} {a2 : Int32} {r : Int32} (k0 : (zk Z a0).1 = 5) (h : f_X7_row (zk Z) μ a0 a1 a2 = some r) : CtM l Z false yX7_row cX7_row 3 (some .int) 2 0 0 [.ref (za Z a0), .int a1, .int a2] μ (some (.int r)) Z μ := ct_of rfl rfl (Nat.le_of_ble_eq_true rfl) (fun X C E => t_X7_row μ a0 a1 a2 r k0 h C E)

def qX7_runCommands : List (Nat × Instr × Nat) := [(0, .aload_n 0, 1), (1, .getfield 10, 3), (4, .invokevirtual 185, 3), (7, .istore_n 1, 1), (8, .iload_n 1, 1), (9, .iconst (-1), 1), (10, .if_icmp .eq 8, 3), (13, .bipush (-10), 2), (15, .iload_n 1, 1), (16, .isub, 1), (17, .ireturn, 1), (18, .aload_n 0, 1), (19, .invokevirtual 40, 3), (22, .aload_n 0, 1), (23, .getfield 10, 3), (26, .invokevirtual 188, 3), (29, .iconst 0, 1), (30, .istore_n 2, 1), (31, .iload_n 2, 1), (32, .sipush 150, 3), (35, .if_icmp .ge 65, 3), (38, .aload_n 0, 1), (39, .getfield 10, 3), (42, .invokevirtual 191, 3), (45, .ifCond .eq 55, 3), (48, .aload_n 0, 1), (49, .getfield 28, 3), (52, .aload_n 0, 1), (53, .getfield 10, 3), (56, .getfield 195, 3), (59, .aload_n 0, 1), (60, .getfield 10, 3), (63, .getfield 199, 3), (66, .invokevirtual 202, 3), (69, .ifCond .ne 31, 3), (72, .aload_n 0, 1), (73, .getfield 28, 3), (76, .aload_n 0, 1), (77, .getfield 10, 3), (80, .getfield 195, 3), (83, .aload_n 0, 1), (84, .getfield 10, 3), (87, .getfield 199, 3), (90, .invokevirtual 206, 3), (93, .pop, 1), (94, .iinc 2 1, 3), (97, .goto (-66), 3), (100, .iload_n 2, 1), (101, .ireturn, 1)]
theorem kX7_runCommands : ∀ q ∈ qX7_runCommands, decode cX7_runCommands q.1 = .ok q.2 := by decide +kernel
def f_X7_runCommands_l31 (K : Nat → Nat × Nat) (v0 : Nat) : Nat → Mm → Int32 → Option (Int32 × Mm)
  | 0, _, _ => none
  | n + 1, μ, v2 => if 150 ≤ v2 then (some (v2, μ)) else (bd (rf K μ v0 0 0) fun b12 => bd (f_X1_readCommand K μ b12) fun q13 => lt1 q13.1 fun x15 => lt1 q13.2 fun μ14 => if x15 = 0 then (some (v2, μ14)) else (bd (rf K μ14 v0 3 4) fun b17 => bd (rf K μ14 v0 0 0) fun b18 => bd (rfW μ14 b18 4) fun b19 => bd (rf K μ14 v0 0 0) fun b20 => bd (rf K μ14 b20 5 8) fun b21 => bd (f_X5_whyNotCarryOut K μ14 b17 b19 b21) fun q22 => lt1 q22.1 fun x24 => lt1 q22.2 fun μ23 => if x24 = 0 then (bd (rf K μ23 v0 3 4) fun b26 => bd (rf K μ23 v0 0 0) fun b27 => bd (rfW μ23 b27 4) fun b28 => bd (rf K μ23 v0 0 0) fun b29 => bd (rf K μ23 b29 5 8) fun b30 => bd (f_X5_carryOut K μ23 b26 b28 b30) fun q31 => lt1 q31.1 fun x33 => lt1 q31.2 fun μ32 => lt1 (α := Int32) (v2 + 1) fun x34 => f_X7_runCommands_l31 K v0 n μ32 x34) else (some (v2, μ23))))
def f_X7_runCommands (K : Nat → Nat × Nat) (μ : Mm) (a0 : Nat) : Option (Int32 × Mm) :=
  bd (rf K μ a0 0 0) fun b1 => bd (f_X1_findFault K μ b1) fun q2 => lt1 q2.1 fun x4 => lt1 q2.2 fun μ3 => if x4 = (-1) then (bd (f_X7_save K μ3 a0) fun μ7 => bd (rf K μ7 a0 0 0) fun b8 => bd (f_X1_rewind K μ7 b8) fun μ10 => bd (f_X7_runCommands_l31 K a0 FU μ10 0) fun q35 => lt1 q35.1 fun x36 => lt1 q35.2 fun μ37 => some (x36, μ37)) else (some (((-10) - x4), μ3))
set_option maxRecDepth 100000 in
set_option maxHeartbeats 4000000 in
theorem gl_X7_runCommands_31 {l : Launch} {Z : ZZ} {X : XX} (v0 : Nat) (k0 : (zk Z v0).1 = 5) (C : Cx l Z false X cX7_runCommands RX7 3 (some .int)) (E : xR X = rmm 8 0 0) : ∀ (n : Nat) (μ : Mm) (v2 : Int32) (y : Int32 × Mm), f_X7_runCommands_l31 (zk Z) v0 n μ v2 = some y → G Z X 3 0 0 100 [(2, .int y.1)] [] y.2 → G Z X 3 0 0 31 [(0, .ref (za Z v0)), (2, .int v2)] [] μ := by
  intro n
  induction n with
  | zero => intro μ v2 y h he; unfold f_X7_runCommands_l31 at h; cases h
  | succ n ih =>
    intro μ v2 y h he
    unfold f_X7_runCommands_l31 at h
    refine g_iload_n C (i := 2) 1 rfl rfl (dk kX7_runCommands 18 rfl) ?_
    refine g_sipush C (v := 150) (by decide) (dk kX7_runCommands 19 rfl) ?_
    refine g_icmp_ge C (tgt := 100) (dk kX7_runCommands 20 rfl) (by decide) (fun c11 => ?_) (fun c11 => ?_)
    · replace h := ite_t h c11
      cases h
      exact g_sub [1] rfl he
    · replace h := ite_f h c11
      refine g_aload_n C (i := 0) 0 rfl rfl (dk kX7_runCommands 21 rfl) ?_
      obtain ⟨b12, eb12, h⟩ := bd_inv h
      obtain ⟨rb12, kb12⟩ := rf_inv eb12
      refine gR_5_0 C k0 (C.w wd_1_200) rb12 (dk kX7_runCommands 22 rfl) ?_
      obtain ⟨q13, eq13, h⟩ := bd_inv h
      obtain ⟨x15, ex15, h⟩ := lt_inv h
      obtain ⟨μ14, eμ14, h⟩ := lt_inv h
      rw [show q13 = (x15, μ14) from by rw [ex15, eμ14]] at eq13
      refine g_callV C E (rest := []) 0 (ct_X1_readCommand kb12 eq13) wd_2_106 mm_X1_readCommand ⟨rfl, by decide, by decide, by decide⟩ rfl (by decide) kb12 (by decide) rfl rfl (Nat.le_of_ble_eq_true rfl) (by decide) (dk kX7_runCommands 23 rfl) ?_
      refine g_if_eq C (tgt := 100) (dk kX7_runCommands 24 rfl) (by decide) (fun c16 => ?_) (fun c16 => ?_)
      · replace h := ite_t h c16
        cases h
        exact g_sub [1] rfl he
      · replace h := ite_f h c16
        refine g_aload_n C (i := 0) 0 rfl rfl (dk kX7_runCommands 25 rfl) ?_
        obtain ⟨b17, eb17, h⟩ := bd_inv h
        obtain ⟨rb17, kb17⟩ := rf_inv eb17
        refine gR_5_3 C k0 (C.w wd_1_203) rb17 (dk kX7_runCommands 26 rfl) ?_
        refine g_aload_n C (i := 0) 0 rfl rfl (dk kX7_runCommands 27 rfl) ?_
        obtain ⟨b18, eb18, h⟩ := bd_inv h
        obtain ⟨rb18, kb18⟩ := rf_inv eb18
        refine gR_5_0 C k0 (C.w wd_1_200) rb18 (dk kX7_runCommands 28 rfl) ?_
        obtain ⟨b19, eb19, h⟩ := bd_inv h
        obtain ⟨rb19, kb19⟩ := rfW_inv eb19
        refine gRN_0_4 C kb18 (nf_1 C) rb19 (dk kX7_runCommands 29 rfl) ?_
        refine g_aload_n C (i := 0) 0 rfl rfl (dk kX7_runCommands 30 rfl) ?_
        obtain ⟨b20, eb20, h⟩ := bd_inv h
        obtain ⟨rb20, kb20⟩ := rf_inv eb20
        refine gR_5_0 C k0 (C.w wd_1_200) rb20 (dk kX7_runCommands 31 rfl) ?_
        obtain ⟨b21, eb21, h⟩ := bd_inv h
        obtain ⟨rb21, kb21⟩ := rf_inv eb21
        refine gRN_0_5 C kb20 (nf_2 C) rb21 (dk kX7_runCommands 32 rfl) ?_
        obtain ⟨q22, eq22, h⟩ := bd_inv h
        obtain ⟨x24, ex24, h⟩ := lt_inv h
        obtain ⟨μ23, eμ23, h⟩ := lt_inv h
        rw [show q22 = (x24, μ23) from by rw [ex24, eμ23]] at eq22
        refine g_callV C E (rest := []) 2 (ct_X5_whyNotCarryOut kb17 kb19 kb21 eq22) wd_2_107 mm_X5_whyNotCarryOut ⟨rfl, by decide, by decide, by decide⟩ rfl (by decide) kb17 (by decide) rfl rfl (Nat.le_of_ble_eq_true rfl) (by decide) (dk kX7_runCommands 33 rfl) ?_
        refine g_if_ne C (tgt := 100) (dk kX7_runCommands 34 rfl) (by decide) (fun c25 => ?_) (fun c25 => ?_)
        · replace h := ite_f h c25
          cases h
          exact g_sub [1] rfl he
        · replace h := ite_t h c25
          refine g_aload_n C (i := 0) 0 rfl rfl (dk kX7_runCommands 35 rfl) ?_
          obtain ⟨b26, eb26, h⟩ := bd_inv h
          obtain ⟨rb26, kb26⟩ := rf_inv eb26
          refine gR_5_3 C k0 (C.w wd_1_203) rb26 (dk kX7_runCommands 36 rfl) ?_
          refine g_aload_n C (i := 0) 0 rfl rfl (dk kX7_runCommands 37 rfl) ?_
          obtain ⟨b27, eb27, h⟩ := bd_inv h
          obtain ⟨rb27, kb27⟩ := rf_inv eb27
          refine gR_5_0 C k0 (C.w wd_1_200) rb27 (dk kX7_runCommands 38 rfl) ?_
          obtain ⟨b28, eb28, h⟩ := bd_inv h
          obtain ⟨rb28, kb28⟩ := rfW_inv eb28
          refine gRN_0_4 C kb27 (nf_1 C) rb28 (dk kX7_runCommands 39 rfl) ?_
          refine g_aload_n C (i := 0) 0 rfl rfl (dk kX7_runCommands 40 rfl) ?_
          obtain ⟨b29, eb29, h⟩ := bd_inv h
          obtain ⟨rb29, kb29⟩ := rf_inv eb29
          refine gR_5_0 C k0 (C.w wd_1_200) rb29 (dk kX7_runCommands 41 rfl) ?_
          obtain ⟨b30, eb30, h⟩ := bd_inv h
          obtain ⟨rb30, kb30⟩ := rf_inv eb30
          refine gRN_0_5 C kb29 (nf_2 C) rb30 (dk kX7_runCommands 42 rfl) ?_
          obtain ⟨q31, eq31, h⟩ := bd_inv h
          obtain ⟨x33, ex33, h⟩ := lt_inv h
          obtain ⟨μ32, eμ32, h⟩ := lt_inv h
          rw [show q31 = (x33, μ32) from by rw [ex33, eμ32]] at eq31
          refine g_callV C E (rest := []) 2 (ct_X5_carryOut kb26 kb28 kb30 eq31) wd_3_12 mm_X5_carryOut ⟨rfl, by decide, by decide, by decide⟩ rfl (by decide) kb26 (by decide) rfl rfl (Nat.le_of_ble_eq_true rfl) (by decide) (dk kX7_runCommands 43 rfl) ?_
          refine g_pop C rfl (dk kX7_runCommands 44 rfl) ?_
          obtain ⟨x34, ex34, h⟩ := lt_inv h
          refine g_iinc C (i := 2) (v := x34) (lv' := [(2, .int x34), (0, .ref (za Z v0))]) 1 (dk kX7_runCommands 45 rfl) rfl (by rw [ex34]; rfl) (by decide) rfl ?_
          refine g_goto C (tgt := 31) (dk kX7_runCommands 46 rfl) (by decide) ?_
          exact g_sub [1, 0] rfl (ih μ32 x34 y h he)
set_option maxRecDepth 100000 in
set_option maxHeartbeats 4000000 in
theorem t_X7_runCommands {l : Launch} {Z : ZZ} {X : XX} (μ : Mm) (a0 : Nat) (r : Int32) (μ' : Mm) (k0 : (zk Z a0).1 = 5) (h : f_X7_runCommands (zk Z) μ a0 = some (r, μ')) (C : Cx l Z false X cX7_runCommands RX7 3 (some .int)) (E : Ex Z X 8 0 0 (some (.int r)) Z μ') : G Z X 3 0 0 0 [(0, .ref (za Z a0))] [] μ := by
  unfold f_X7_runCommands at h
  refine g_aload_n C (i := 0) 0 rfl rfl (dk kX7_runCommands 0 rfl) ?_
  obtain ⟨b1, eb1, h⟩ := bd_inv h
  obtain ⟨rb1, kb1⟩ := rf_inv eb1
  refine gR_5_0 C k0 (C.w wd_1_200) rb1 (dk kX7_runCommands 1 rfl) ?_
  obtain ⟨q2, eq2, h⟩ := bd_inv h
  obtain ⟨x4, ex4, h⟩ := lt_inv h
  obtain ⟨μ3, eμ3, h⟩ := lt_inv h
  rw [show q2 = (x4, μ3) from by rw [ex4, eμ3]] at eq2
  refine g_callV C E.2 (rest := []) 0 (ct_X1_findFault kb1 eq2) wd_1_233 mm_X1_findFault ⟨rfl, by decide, by decide, by decide⟩ rfl (by decide) kb1 (by decide) rfl rfl (Nat.le_of_ble_eq_true rfl) (by decide) (dk kX7_runCommands 2 rfl) ?_
  refine g_istore_n C (i := 1) (lv' := [(1, .int x4), (0, .ref (za Z a0))]) (dk kX7_runCommands 3 rfl) rfl (by decide) rfl ?_
  refine g_iload_n C (i := 1) 0 rfl rfl (dk kX7_runCommands 4 rfl) ?_
  refine g_iconst C (v := (-1)) (by decide) (dk kX7_runCommands 5 rfl) ?_
  refine g_icmp_eq C (tgt := 18) (dk kX7_runCommands 6 rfl) (by decide) (fun c5 => ?_) (fun c5 => ?_)
  · replace h := ite_t h c5
    refine g_aload_n C (i := 0) 1 rfl rfl (dk kX7_runCommands 11 rfl) ?_
    obtain ⟨μ7, eq6, h⟩ := bd_inv h
    refine g_callV C E.2 (rest := []) 0 (ct_X7_save k0 eq6) wd_2_83 mm_X7_save ⟨rfl, by decide, by decide, by decide⟩ rfl (by decide) k0 (by decide) rfl rfl (Nat.le_of_ble_eq_true rfl) (by decide) (dk kX7_runCommands 12 rfl) ?_
    refine g_aload_n C (i := 0) 1 rfl rfl (dk kX7_runCommands 13 rfl) ?_
    obtain ⟨b8, eb8, h⟩ := bd_inv h
    obtain ⟨rb8, kb8⟩ := rf_inv eb8
    refine gR_5_0 C k0 (C.w wd_1_200) rb8 (dk kX7_runCommands 14 rfl) ?_
    obtain ⟨μ10, eq9, h⟩ := bd_inv h
    refine g_callV C E.2 (rest := []) 0 (ct_X1_rewind kb8 eq9) wd_2_105 mm_X1_rewind ⟨rfl, by decide, by decide, by decide⟩ rfl (by decide) kb8 (by decide) rfl rfl (Nat.le_of_ble_eq_true rfl) (by decide) (dk kX7_runCommands 15 rfl) ?_
    refine g_iconst C (v := 0) (by decide) (dk kX7_runCommands 16 rfl) ?_
    refine g_istore_n C (i := 2) (lv' := [(2, .int 0), (1, .int x4), (0, .ref (za Z a0))]) (dk kX7_runCommands 17 rfl) rfl (by decide) rfl ?_
    obtain ⟨q35, eq35, h⟩ := bd_inv h
    refine g_sub [2, 0] (lv' := [(0, .ref (za Z a0)), (2, .int 0)]) rfl ?_
    refine gl_X7_runCommands_31 a0 k0 C E.2 FU μ10 0 _ eq35 ?_
    obtain ⟨x36, ex36, h⟩ := lt_inv h
    obtain ⟨μ37, eμ37, h⟩ := lt_inv h
    rw [← ex36, ← eμ37]
    refine g_iload_n C (i := 2) 0 rfl rfl (dk kX7_runCommands 47 rfl) ?_
    obtain ⟨h8, h9⟩ := Prod.mk.inj (Option.some.inj h)
    subst h8
    subst h9
    exact g_iret C E rfl rfl (Nat.le_refl 0) (Nat.le_refl 0) (dk kX7_runCommands 48 rfl)
  · replace h := ite_f h c5
    refine g_bipush C (v := (-10)) (by decide) (dk kX7_runCommands 7 rfl) ?_
    refine g_iload_n C (i := 1) 0 rfl rfl (dk kX7_runCommands 8 rfl) ?_
    refine g_isub C (dk kX7_runCommands 9 rfl) ?_
    obtain ⟨h8, h9⟩ := Prod.mk.inj (Option.some.inj h)
    subst h8
    subst h9
    exact g_iret C E rfl rfl (Nat.le_refl 0) (Nat.le_refl 0) (dk kX7_runCommands 10 rfl)
theorem ct_X7_runCommands {l : Launch} {Z : ZZ} {μ : Mm} {a0 : Nat} {r : Int32} {μ' : Mm} (k0 : (zk Z a0).1 = 5) (h : f_X7_runCommands (zk Z) μ a0 = some (r, μ')) : CtM l Z false yX7_runCommands cX7_runCommands 3 (some .int) 8 0 0 [.ref (za Z a0)] μ (some (.int r)) Z μ' := ct_of rfl rfl (Nat.le_of_ble_eq_true rfl) (fun X C E => t_X7_runCommands μ a0 r μ' k0 h C E)

def qX7_set : List (Nat × Instr × Nat) := [(0, .aload_n 0, 1), (1, .getfield 28, 3), (4, .iload_n 1, 1), (5, .iload_n 2, 1), (6, .invokevirtual 46, 3), (9, .invokestatic 36, 3), (12, .aload_n 0, 1), (13, .invokevirtual 40, 3), (16, .aload_n 0, 1), (17, .getfield 28, 3), (20, .iload_n 1, 1), (21, .iload_n 2, 1), (22, .invokevirtual 50, 3), (25, .ireturn, 1)]
theorem kX7_set : ∀ q ∈ qX7_set, decode cX7_set q.1 = .ok q.2 := by decide +kernel
def f_X7_set (K : Nat → Nat × Nat) (μ : Mm) (a0 : Nat) (a1 : Int32) (a2 : Int32) : Option (Int32 × Mm) :=
  bd (rf K μ a0 3 4) fun b1 => bd (f_X5_whyNotChangeSetting K μ b1 a1 a2) fun x3 => bd (f_X7_refuse x3) fun q4 => bd (f_X7_save K μ a0) fun μ6 => bd (rf K μ6 a0 3 4) fun b7 => bd (f_X5_changeSetting K μ6 b7 a1 a2) fun q8 => lt1 q8.1 fun x10 => lt1 q8.2 fun μ9 => some (x10, μ9)
set_option maxRecDepth 100000 in
set_option maxHeartbeats 4000000 in
theorem t_X7_set {l : Launch} {Z : ZZ} {X : XX} (μ : Mm) (a0 : Nat) (a1 : Int32) (a2 : Int32) (r : Int32) (μ' : Mm) (k0 : (zk Z a0).1 = 5) (h : f_X7_set (zk Z) μ a0 a1 a2 = some (r, μ')) (C : Cx l Z false X cX7_set RX7 3 (some .int)) (E : Ex Z X 4 0 0 (some (.int r)) Z μ') : G Z X 3 0 0 0 [(0, .ref (za Z a0)), (1, .int a1), (2, .int a2)] [] μ := by
  unfold f_X7_set at h
  refine g_aload_n C (i := 0) 0 rfl rfl (dk kX7_set 0 rfl) ?_
  obtain ⟨b1, eb1, h⟩ := bd_inv h
  obtain ⟨rb1, kb1⟩ := rf_inv eb1
  refine gR_5_3 C k0 (C.w wd_1_203) rb1 (dk kX7_set 1 rfl) ?_
  refine g_iload_n C (i := 1) 1 rfl rfl (dk kX7_set 2 rfl) ?_
  refine g_iload_n C (i := 2) 2 rfl rfl (dk kX7_set 3 rfl) ?_
  obtain ⟨x3, eq2, h⟩ := bd_inv h
  refine g_callV C E.2 (rest := []) 2 (ct_X5_whyNotChangeSetting kb1 eq2) wd_4_36 mm_X5_whyNotChangeSetting ⟨rfl, by decide, by decide, by decide⟩ rfl (by decide) kb1 (by decide) rfl rfl (Nat.le_of_ble_eq_true rfl) (by decide) (dk kX7_set 4 rfl) ?_
  obtain ⟨q4, eq4, h⟩ := bd_inv h
  refine g_callS C E.2 (rest := []) 1 (ct_X7_refuse  eq4) wd_3_103 mm_X7_refuse ⟨by decide, by decide, by decide⟩ rfl (by decide) rfl (Nat.le_of_ble_eq_true rfl) (by decide) (dk kX7_set 5 rfl) ?_
  refine g_aload_n C (i := 0) 0 rfl rfl (dk kX7_set 6 rfl) ?_
  obtain ⟨μ6, eq5, h⟩ := bd_inv h
  refine g_callV C E.2 (rest := []) 0 (ct_X7_save k0 eq5) wd_2_83 mm_X7_save ⟨rfl, by decide, by decide, by decide⟩ rfl (by decide) k0 (by decide) rfl rfl (Nat.le_of_ble_eq_true rfl) (by decide) (dk kX7_set 7 rfl) ?_
  refine g_aload_n C (i := 0) 0 rfl rfl (dk kX7_set 8 rfl) ?_
  obtain ⟨b7, eb7, h⟩ := bd_inv h
  obtain ⟨rb7, kb7⟩ := rf_inv eb7
  refine gR_5_3 C k0 (C.w wd_1_203) rb7 (dk kX7_set 9 rfl) ?_
  refine g_iload_n C (i := 1) 1 rfl rfl (dk kX7_set 10 rfl) ?_
  refine g_iload_n C (i := 2) 2 rfl rfl (dk kX7_set 11 rfl) ?_
  obtain ⟨q8, eq8, h⟩ := bd_inv h
  obtain ⟨x10, ex10, h⟩ := lt_inv h
  obtain ⟨μ9, eμ9, h⟩ := lt_inv h
  rw [show q8 = (x10, μ9) from by rw [ex10, eμ9]] at eq8
  refine g_callV C E.2 (rest := []) 2 (ct_X5_changeSetting kb7 eq8) wd_4_37 mm_X5_changeSetting ⟨rfl, by decide, by decide, by decide⟩ rfl (by decide) kb7 (by decide) rfl rfl (Nat.le_of_ble_eq_true rfl) (by decide) (dk kX7_set 12 rfl) ?_
  obtain ⟨h8, h9⟩ := Prod.mk.inj (Option.some.inj h)
  subst h8
  subst h9
  exact g_iret C E rfl rfl (Nat.le_refl 0) (Nat.le_refl 0) (dk kX7_set 13 rfl)
theorem ct_X7_set {l : Launch} {Z : ZZ} {μ : Mm} {a0 : Nat} {a1 : Int32} {a2 : Int32} {r : Int32} {μ' : Mm} (k0 : (zk Z a0).1 = 5) (h : f_X7_set (zk Z) μ a0 a1 a2 = some (r, μ')) : CtM l Z false yX7_set cX7_set 3 (some .int) 4 0 0 [.ref (za Z a0), .int a1, .int a2] μ (some (.int r)) Z μ' := ct_of rfl rfl (Nat.le_of_ble_eq_true rfl) (fun X C E => t_X7_set μ a0 a1 a2 r μ' k0 h C E)

def qX7_setRow : List (Nat × Instr × Nat) := [(0, .aload_n 0, 1), (1, .getfield 28, 3), (4, .iload_n 1, 1), (5, .iload_n 2, 1), (6, .iload_n 3, 1), (7, .invokevirtual 59, 3), (10, .invokestatic 36, 3), (13, .aload_n 0, 1), (14, .invokevirtual 40, 3), (17, .aload_n 0, 1), (18, .getfield 28, 3), (21, .iload_n 1, 1), (22, .iload_n 2, 1), (23, .iload_n 3, 1), (24, .invokevirtual 63, 3), (27, .ireturn, 1)]
theorem kX7_setRow : ∀ q ∈ qX7_setRow, decode cX7_setRow q.1 = .ok q.2 := by decide +kernel
def f_X7_setRow (K : Nat → Nat × Nat) (μ : Mm) (a0 : Nat) (a1 : Int32) (a2 : Int32) (a3 : Int32) : Option (Int32 × Mm) :=
  bd (rf K μ a0 3 4) fun b1 => bd (f_X5_whyNotChangeRow K μ b1 a1 a2 a3) fun x3 => bd (f_X7_refuse x3) fun q4 => bd (f_X7_save K μ a0) fun μ6 => bd (rf K μ6 a0 3 4) fun b7 => bd (f_X5_changeRow K μ6 b7 a1 a2 a3) fun q8 => lt1 q8.1 fun x10 => lt1 q8.2 fun μ9 => some (x10, μ9)
set_option maxRecDepth 100000 in
set_option maxHeartbeats 4000000 in
theorem t_X7_setRow {l : Launch} {Z : ZZ} {X : XX} (μ : Mm) (a0 : Nat) (a1 : Int32) (a2 : Int32) (a3 : Int32) (r : Int32) (μ' : Mm) (k0 : (zk Z a0).1 = 5) (h : f_X7_setRow (zk Z) μ a0 a1 a2 a3 = some (r, μ')) (C : Cx l Z false X cX7_setRow RX7 4 (some .int)) (E : Ex Z X 4 0 0 (some (.int r)) Z μ') : G Z X 4 0 0 0 [(0, .ref (za Z a0)), (1, .int a1), (2, .int a2), (3, .int a3)] [] μ := by
  unfold f_X7_setRow at h
  refine g_aload_n C (i := 0) 0 rfl rfl (dk kX7_setRow 0 rfl) ?_
  obtain ⟨b1, eb1, h⟩ := bd_inv h
  obtain ⟨rb1, kb1⟩ := rf_inv eb1
  refine gR_5_3 C k0 (C.w wd_1_203) rb1 (dk kX7_setRow 1 rfl) ?_
  refine g_iload_n C (i := 1) 1 rfl rfl (dk kX7_setRow 2 rfl) ?_
  refine g_iload_n C (i := 2) 2 rfl rfl (dk kX7_setRow 3 rfl) ?_
  refine g_iload_n C (i := 3) 3 rfl rfl (dk kX7_setRow 4 rfl) ?_
  obtain ⟨x3, eq2, h⟩ := bd_inv h
  refine g_callV C E.2 (rest := []) 3 (ct_X5_whyNotChangeRow kb1 eq2) wd_4_56 mm_X5_whyNotChangeRow ⟨rfl, by decide, by decide, by decide⟩ rfl (by decide) kb1 (by decide) rfl rfl (Nat.le_of_ble_eq_true rfl) (by decide) (dk kX7_setRow 5 rfl) ?_
  obtain ⟨q4, eq4, h⟩ := bd_inv h
  refine g_callS C E.2 (rest := []) 1 (ct_X7_refuse  eq4) wd_3_103 mm_X7_refuse ⟨by decide, by decide, by decide⟩ rfl (by decide) rfl (Nat.le_of_ble_eq_true rfl) (by decide) (dk kX7_setRow 6 rfl) ?_
  refine g_aload_n C (i := 0) 0 rfl rfl (dk kX7_setRow 7 rfl) ?_
  obtain ⟨μ6, eq5, h⟩ := bd_inv h
  refine g_callV C E.2 (rest := []) 0 (ct_X7_save k0 eq5) wd_2_83 mm_X7_save ⟨rfl, by decide, by decide, by decide⟩ rfl (by decide) k0 (by decide) rfl rfl (Nat.le_of_ble_eq_true rfl) (by decide) (dk kX7_setRow 8 rfl) ?_
  refine g_aload_n C (i := 0) 0 rfl rfl (dk kX7_setRow 9 rfl) ?_
  obtain ⟨b7, eb7, h⟩ := bd_inv h
  obtain ⟨rb7, kb7⟩ := rf_inv eb7
  refine gR_5_3 C k0 (C.w wd_1_203) rb7 (dk kX7_setRow 10 rfl) ?_
  refine g_iload_n C (i := 1) 1 rfl rfl (dk kX7_setRow 11 rfl) ?_
  refine g_iload_n C (i := 2) 2 rfl rfl (dk kX7_setRow 12 rfl) ?_
  refine g_iload_n C (i := 3) 3 rfl rfl (dk kX7_setRow 13 rfl) ?_
  obtain ⟨q8, eq8, h⟩ := bd_inv h
  obtain ⟨x10, ex10, h⟩ := lt_inv h
  obtain ⟨μ9, eμ9, h⟩ := lt_inv h
  rw [show q8 = (x10, μ9) from by rw [ex10, eμ9]] at eq8
  refine g_callV C E.2 (rest := []) 3 (ct_X5_changeRow kb7 eq8) wd_4_57 mm_X5_changeRow ⟨rfl, by decide, by decide, by decide⟩ rfl (by decide) kb7 (by decide) rfl rfl (Nat.le_of_ble_eq_true rfl) (by decide) (dk kX7_setRow 14 rfl) ?_
  obtain ⟨h8, h9⟩ := Prod.mk.inj (Option.some.inj h)
  subst h8
  subst h9
  exact g_iret C E rfl rfl (Nat.le_refl 0) (Nat.le_refl 0) (dk kX7_setRow 15 rfl)
theorem ct_X7_setRow {l : Launch} {Z : ZZ} {μ : Mm} {a0 : Nat} {a1 : Int32} {a2 : Int32} {a3 : Int32} {r : Int32} {μ' : Mm} (k0 : (zk Z a0).1 = 5) (h : f_X7_setRow (zk Z) μ a0 a1 a2 a3 = some (r, μ')) : CtM l Z false yX7_setRow cX7_setRow 4 (some .int) 4 0 0 [.ref (za Z a0), .int a1, .int a2, .int a3] μ (some (.int r)) Z μ' := ct_of rfl rfl (Nat.le_of_ble_eq_true rfl) (fun X C E => t_X7_setRow μ a0 a1 a2 a3 r μ' k0 h C E)

def qX7_type : List (Nat × Instr × Nat) := [(0, .aload_n 0, 1), (1, .getfield 10, 3), (4, .iload_n 1, 1), (5, .invokevirtual 176, 3), (8, .invokestatic 36, 3), (11, .aload_n 0, 1), (12, .getfield 10, 3), (15, .iload_n 1, 1), (16, .invokevirtual 179, 3), (19, .ireturn, 1)]
theorem kX7_type : ∀ q ∈ qX7_type, decode cX7_type q.1 = .ok q.2 := by decide +kernel
def f_X7_type (K : Nat → Nat × Nat) (μ : Mm) (a0 : Nat) (a1 : Int32) : Option (Int32 × Mm) :=
  bd (rf K μ a0 0 0) fun b1 => bd (f_X1_whyNotAppend K μ b1 a1) fun x3 => bd (f_X7_refuse x3) fun q4 => bd (rf K μ a0 0 0) fun b5 => bd (f_X1_append K μ b5 a1) fun q6 => lt1 q6.1 fun x8 => lt1 q6.2 fun μ7 => some (x8, μ7)
set_option maxRecDepth 100000 in
set_option maxHeartbeats 4000000 in
theorem t_X7_type {l : Launch} {Z : ZZ} {X : XX} (μ : Mm) (a0 : Nat) (a1 : Int32) (r : Int32) (μ' : Mm) (k0 : (zk Z a0).1 = 5) (h : f_X7_type (zk Z) μ a0 a1 = some (r, μ')) (C : Cx l Z false X cX7_type RX7 2 (some .int)) (E : Ex Z X 1 0 0 (some (.int r)) Z μ') : G Z X 2 0 0 0 [(0, .ref (za Z a0)), (1, .int a1)] [] μ := by
  unfold f_X7_type at h
  refine g_aload_n C (i := 0) 0 rfl rfl (dk kX7_type 0 rfl) ?_
  obtain ⟨b1, eb1, h⟩ := bd_inv h
  obtain ⟨rb1, kb1⟩ := rf_inv eb1
  refine gR_5_0 C k0 (C.w wd_1_200) rb1 (dk kX7_type 1 rfl) ?_
  refine g_iload_n C (i := 1) 1 rfl rfl (dk kX7_type 2 rfl) ?_
  obtain ⟨x3, eq2, h⟩ := bd_inv h
  refine g_callV C E.2 (rest := []) 1 (ct_X1_whyNotAppend kb1 eq2) wd_4_222 mm_X1_whyNotAppend ⟨rfl, by decide, by decide, by decide⟩ rfl (by decide) kb1 (by decide) rfl rfl (Nat.le_of_ble_eq_true rfl) (by decide) (dk kX7_type 3 rfl) ?_
  obtain ⟨q4, eq4, h⟩ := bd_inv h
  refine g_callS C E.2 (rest := []) 1 (ct_X7_refuse  eq4) wd_3_103 mm_X7_refuse ⟨by decide, by decide, by decide⟩ rfl (by decide) rfl (Nat.le_of_ble_eq_true rfl) (by decide) (dk kX7_type 4 rfl) ?_
  refine g_aload_n C (i := 0) 0 rfl rfl (dk kX7_type 5 rfl) ?_
  obtain ⟨b5, eb5, h⟩ := bd_inv h
  obtain ⟨rb5, kb5⟩ := rf_inv eb5
  refine gR_5_0 C k0 (C.w wd_1_200) rb5 (dk kX7_type 6 rfl) ?_
  refine g_iload_n C (i := 1) 1 rfl rfl (dk kX7_type 7 rfl) ?_
  obtain ⟨q6, eq6, h⟩ := bd_inv h
  obtain ⟨x8, ex8, h⟩ := lt_inv h
  obtain ⟨μ7, eμ7, h⟩ := lt_inv h
  rw [show q6 = (x8, μ7) from by rw [ex8, eμ7]] at eq6
  refine g_callV C E.2 (rest := []) 1 (ct_X1_append kb5 eq6) wd_4_226 mm_X1_append ⟨rfl, by decide, by decide, by decide⟩ rfl (by decide) kb5 (by decide) rfl rfl (Nat.le_of_ble_eq_true rfl) (by decide) (dk kX7_type 8 rfl) ?_
  obtain ⟨h8, h9⟩ := Prod.mk.inj (Option.some.inj h)
  subst h8
  subst h9
  exact g_iret C E rfl rfl (Nat.le_refl 0) (Nat.le_refl 0) (dk kX7_type 9 rfl)
theorem ct_X7_type {l : Launch} {Z : ZZ} {μ : Mm} {a0 : Nat} {a1 : Int32} {r : Int32} {μ' : Mm} (k0 : (zk Z a0).1 = 5) (h : f_X7_type (zk Z) μ a0 a1 = some (r, μ')) : CtM l Z false yX7_type cX7_type 2 (some .int) 1 0 0 [.ref (za Z a0), .int a1] μ (some (.int r)) Z μ' := ct_of rfl rfl (Nat.le_of_ble_eq_true rfl) (fun X C E => t_X7_type μ a0 a1 r μ' k0 h C E)

def qX7_undo : List (Nat × Instr × Nat) := [(0, .aload_n 0, 1), (1, .getfield 209, 3), (4, .iconst 1, 1), (5, .if_icmp .ge 7, 3), (8, .iconst 3, 1), (9, .goto 4, 3), (12, .iconst 0, 1), (13, .invokestatic 36, 3), (16, .aload_n 0, 1), (17, .dup, 1), (18, .getfield 209, 3), (21, .iconst 1, 1), (22, .isub, 1), (23, .putfield 209, 3), (26, .aload_n 0, 1), (27, .getfield 28, 3), (30, .aload_n 0, 1), (31, .getfield 18, 3), (34, .aload_n 0, 1), (35, .getfield 209, 3), (38, .aaload, 1), (39, .invokevirtual 212, 3), (42, .aload_n 0, 1), (43, .getfield 209, 3), (46, .ireturn, 1)]
theorem kX7_undo : ∀ q ∈ qX7_undo, decode cX7_undo q.1 = .ok q.2 := by decide +kernel
def f_X7_undo (K : Nat → Nat × Nat) (μ : Mm) (a0 : Nat) : Option (Int32 × Mm) :=
  lt1 (α := Int32) (if 1 ≤ (μ.1 a0 2) then 0 else 3) fun x1 => bd (f_X7_refuse x1) fun q3 => lt1 (sI μ a0 2 ((μ.1 a0 2) - 1)) fun μ4 => bd (rf K μ4 a0 3 4) fun b5 => bd (rf K μ4 a0 1 11) fun b6 => gd (inb (μ4.1 a0 2) (K b6).2) <| bd (rf K μ4 b6 (ix (μ4.1 a0 2)) 4) fun b8 => bd (f_X5_takeOver K μ4 b5 b8) fun μ10 => some ((μ10.1 a0 2), μ10)
set_option maxRecDepth 100000 in
set_option maxHeartbeats 4000000 in
theorem t_X7_undo {l : Launch} {Z : ZZ} {X : XX} (μ : Mm) (a0 : Nat) (r : Int32) (μ' : Mm) (k0 : (zk Z a0).1 = 5) (h : f_X7_undo (zk Z) μ a0 = some (r, μ')) (C : Cx l Z false X cX7_undo RX7 1 (some .int)) (E : Ex Z X 3 0 0 (some (.int r)) Z μ') : G Z X 1 0 0 0 [(0, .ref (za Z a0))] [] μ := by
  unfold f_X7_undo at h
  refine g_aload_n C (i := 0) 0 rfl rfl (dk kX7_undo 0 rfl) ?_
  refine gI_5_2 C k0 (C.w wd_1_202) (dk kX7_undo 1 rfl) ?_
  refine g_iconst C (v := 1) (by decide) (dk kX7_undo 2 rfl) ?_
  obtain ⟨x1, ex1, h⟩ := lt_inv h
  have kj2 : G Z X 1 0 0 13 [(0, .ref (za Z a0))] [.int x1] μ := by
    obtain ⟨q3, eq3, h⟩ := bd_inv h
    refine g_callS C E.2 (rest := []) 1 (ct_X7_refuse  eq3) wd_3_103 mm_X7_refuse ⟨by decide, by decide, by decide⟩ rfl (by decide) rfl (Nat.le_of_ble_eq_true rfl) (by decide) (dk kX7_undo 7 rfl) ?_
    refine g_aload_n C (i := 0) 0 rfl rfl (dk kX7_undo 8 rfl) ?_
    refine g_dup C rfl (dk kX7_undo 9 rfl) ?_
    refine gI_5_2 C k0 (C.w wd_1_202) (dk kX7_undo 10 rfl) ?_
    refine g_iconst C (v := 1) (by decide) (dk kX7_undo 11 rfl) ?_
    refine g_isub C (dk kX7_undo 12 rfl) ?_
    obtain ⟨μ4, eμ4, h⟩ := lt_inv h
    refine pI_5_2 C k0 (C.w wd_1_202) eμ4 (dk kX7_undo 13 rfl) ?_
    refine g_aload_n C (i := 0) 0 rfl rfl (dk kX7_undo 14 rfl) ?_
    obtain ⟨b5, eb5, h⟩ := bd_inv h
    obtain ⟨rb5, kb5⟩ := rf_inv eb5
    refine gR_5_3 C k0 (C.w wd_1_203) rb5 (dk kX7_undo 15 rfl) ?_
    refine g_aload_n C (i := 0) 0 rfl rfl (dk kX7_undo 16 rfl) ?_
    obtain ⟨b6, eb6, h⟩ := bd_inv h
    obtain ⟨rb6, kb6⟩ := rf_inv eb6
    refine gR_5_1 C k0 (C.w wd_1_201) rb6 (dk kX7_undo 17 rfl) ?_
    refine g_aload_n C (i := 0) 0 rfl rfl (dk kX7_undo 18 rfl) ?_
    refine gI_5_2 C k0 (C.w wd_1_202) (dk kX7_undo 19 rfl) ?_
    obtain ⟨c7, h⟩ := gd_inv h
    obtain ⟨b8, eb8, h⟩ := bd_inv h
    obtain ⟨rb8, kb8⟩ := rf_inv eb8
    refine gA_11 C kb6 c7 rb8 (dk kX7_undo 20 rfl) ?_
    obtain ⟨μ10, eq9, h⟩ := bd_inv h
    refine g_callV C E.2 (rest := []) 1 (ct_X5_takeOver kb5 kb8 eq9) wd_2_87 mm_X5_takeOver ⟨rfl, by decide, by decide, by decide⟩ rfl (by decide) kb5 (by decide) rfl rfl (Nat.le_of_ble_eq_true rfl) (by decide) (dk kX7_undo 21 rfl) ?_
    refine g_aload_n C (i := 0) 0 rfl rfl (dk kX7_undo 22 rfl) ?_
    refine gI_5_2 C k0 (C.w wd_1_202) (dk kX7_undo 23 rfl) ?_
    obtain ⟨h8, h9⟩ := Prod.mk.inj (Option.some.inj h)
    subst h8
    subst h9
    exact g_iret C E rfl rfl (Nat.le_refl 0) (Nat.le_refl 0) (dk kX7_undo 24 rfl)
  clear h
  refine g_icmp_ge C (tgt := 12) (dk kX7_undo 3 rfl) (by decide) (fun c11 => ?_) (fun c11 => ?_)
  · refine g_iconst C (v := 0) (by decide) (dk kX7_undo 6 rfl) ?_
    exact g_nmi (by rw [ex1, if_pos c11]) kj2
  · refine g_iconst C (v := 3) (by decide) (dk kX7_undo 4 rfl) ?_
    refine g_goto C (tgt := 13) (dk kX7_undo 5 rfl) (by decide) ?_
    exact g_nmi (by rw [ex1, if_neg c11]) kj2
theorem ct_X7_undo {l : Launch} {Z : ZZ} {μ : Mm} {a0 : Nat} {r : Int32} {μ' : Mm} (k0 : (zk Z a0).1 = 5) (h : f_X7_undo (zk Z) μ a0 = some (r, μ')) : CtM l Z false yX7_undo cX7_undo 1 (some .int) 3 0 0 [.ref (za Z a0)] μ (some (.int r)) Z μ' := ct_of rfl rfl (Nat.le_of_ble_eq_true rfl) (fun X C E => t_X7_undo μ a0 r μ' k0 h C E)

def qX7_unreadable : List (Nat × Instr × Nat) := [(0, .aload_n 0, 1), (1, .getfield 28, 3), (4, .iload_n 1, 1), (5, .iload_n 2, 1), (6, .iload_n 3, 1), (7, .invokevirtual 148, 3), (10, .invokestatic 36, 3), (13, .aload_n 0, 1), (14, .getfield 28, 3), (17, .iload_n 1, 1), (18, .iload_n 2, 1), (19, .iload_n 3, 1), (20, .invokevirtual 151, 3), (23, .ifCond .eq 7, 3), (26, .iconst (-1), 1), (27, .goto 12, 3), (30, .aload_n 0, 1), (31, .getfield 28, 3), (34, .iload_n 2, 1), (35, .iload_n 3, 1), (36, .invokevirtual 157, 3), (39, .ireturn, 1)]
theorem kX7_unreadable : ∀ q ∈ qX7_unreadable, decode cX7_unreadable q.1 = .ok q.2 := by decide +kernel
def f_X7_unreadable (K : Nat → Nat × Nat) (μ : Mm) (a0 : Nat) (a1 : Int32) (a2 : Int32) (a3 : Int32) : Option (Int32 × Mm) :=
  bd (rf K μ a0 3 4) fun b1 => bd (f_X5_whyNotAskAbout K μ b1 a1 a2 a3) fun x3 => bd (f_X7_refuse x3) fun q4 => bd (rf K μ a0 3 4) fun b5 => bd (f_X5_reasonAt K μ b5 a1 a2 a3) fun x7 => if x7 = 0 then (bd (rf K μ a0 3 4) fun b9 => bd (f_X5_unreadableAt K μ b9 a2 a3) fun q10 => lt1 q10.1 fun x12 => lt1 q10.2 fun μ11 => some (x12, μ11)) else (some ((-1), μ))
set_option maxRecDepth 100000 in
set_option maxHeartbeats 4000000 in
theorem t_X7_unreadable {l : Launch} {Z : ZZ} {X : XX} (μ : Mm) (a0 : Nat) (a1 : Int32) (a2 : Int32) (a3 : Int32) (r : Int32) (μ' : Mm) (k0 : (zk Z a0).1 = 5) (h : f_X7_unreadable (zk Z) μ a0 a1 a2 a3 = some (r, μ')) (C : Cx l Z false X cX7_unreadable RX7 4 (some .int)) (E : Ex Z X 3 0 0 (some (.int r)) Z μ') : G Z X 4 0 0 0 [(0, .ref (za Z a0)), (1, .int a1), (2, .int a2), (3, .int a3)] [] μ := by
  unfold f_X7_unreadable at h
  refine g_aload_n C (i := 0) 0 rfl rfl (dk kX7_unreadable 0 rfl) ?_
  obtain ⟨b1, eb1, h⟩ := bd_inv h
  obtain ⟨rb1, kb1⟩ := rf_inv eb1
  refine gR_5_3 C k0 (C.w wd_1_203) rb1 (dk kX7_unreadable 1 rfl) ?_
  refine g_iload_n C (i := 1) 1 rfl rfl (dk kX7_unreadable 2 rfl) ?_
  refine g_iload_n C (i := 2) 2 rfl rfl (dk kX7_unreadable 3 rfl) ?_
  refine g_iload_n C (i := 3) 3 rfl rfl (dk kX7_unreadable 4 rfl) ?_
  obtain ⟨x3, eq2, h⟩ := bd_inv h
  refine g_callV C E.2 (rest := []) 3 (ct_X5_whyNotAskAbout kb1 eq2) wd_4_178 mm_X5_whyNotAskAbout ⟨rfl, by decide, by decide, by decide⟩ rfl (by decide) kb1 (by decide) rfl rfl (Nat.le_of_ble_eq_true rfl) (by decide) (dk kX7_unreadable 5 rfl) ?_
  obtain ⟨q4, eq4, h⟩ := bd_inv h
  refine g_callS C E.2 (rest := []) 1 (ct_X7_refuse  eq4) wd_3_103 mm_X7_refuse ⟨by decide, by decide, by decide⟩ rfl (by decide) rfl (Nat.le_of_ble_eq_true rfl) (by decide) (dk kX7_unreadable 6 rfl) ?_
  refine g_aload_n C (i := 0) 0 rfl rfl (dk kX7_unreadable 7 rfl) ?_
  obtain ⟨b5, eb5, h⟩ := bd_inv h
  obtain ⟨rb5, kb5⟩ := rf_inv eb5
  refine gR_5_3 C k0 (C.w wd_1_203) rb5 (dk kX7_unreadable 8 rfl) ?_
  refine g_iload_n C (i := 1) 1 rfl rfl (dk kX7_unreadable 9 rfl) ?_
  refine g_iload_n C (i := 2) 2 rfl rfl (dk kX7_unreadable 10 rfl) ?_
  refine g_iload_n C (i := 3) 3 rfl rfl (dk kX7_unreadable 11 rfl) ?_
  obtain ⟨x7, eq6, h⟩ := bd_inv h
  refine g_callV C E.2 (rest := []) 3 (ct_X5_reasonAt kb5 eq6) wd_4_179 mm_X5_reasonAt ⟨rfl, by decide, by decide, by decide⟩ rfl (by decide) kb5 (by decide) rfl rfl (Nat.le_of_ble_eq_true rfl) (by decide) (dk kX7_unreadable 12 rfl) ?_
  refine g_if_eq C (tgt := 30) (dk kX7_unreadable 13 rfl) (by decide) (fun c8 => ?_) (fun c8 => ?_)
  · replace h := ite_t h c8
    refine g_aload_n C (i := 0) 0 rfl rfl (dk kX7_unreadable 16 rfl) ?_
    obtain ⟨b9, eb9, h⟩ := bd_inv h
    obtain ⟨rb9, kb9⟩ := rf_inv eb9
    refine gR_5_3 C k0 (C.w wd_1_203) rb9 (dk kX7_unreadable 17 rfl) ?_
    refine g_iload_n C (i := 2) 2 rfl rfl (dk kX7_unreadable 18 rfl) ?_
    refine g_iload_n C (i := 3) 3 rfl rfl (dk kX7_unreadable 19 rfl) ?_
    obtain ⟨q10, eq10, h⟩ := bd_inv h
    obtain ⟨x12, ex12, h⟩ := lt_inv h
    obtain ⟨μ11, eμ11, h⟩ := lt_inv h
    rw [show q10 = (x12, μ11) from by rw [ex12, eμ11]] at eq10
    refine g_callV C E.2 (rest := []) 2 (ct_X5_unreadableAt kb9 eq10) wd_4_195 mm_X5_unreadableAt ⟨rfl, by decide, by decide, by decide⟩ rfl (by decide) kb9 (by decide) rfl rfl (Nat.le_of_ble_eq_true rfl) (by decide) (dk kX7_unreadable 20 rfl) ?_
    obtain ⟨h8, h9⟩ := Prod.mk.inj (Option.some.inj h)
    subst h8
    subst h9
    exact g_iret C E rfl rfl (Nat.le_refl 0) (Nat.le_refl 0) (dk kX7_unreadable 21 rfl)
  · replace h := ite_f h c8
    refine g_iconst C (v := (-1)) (by decide) (dk kX7_unreadable 14 rfl) ?_
    refine g_goto C (tgt := 39) (dk kX7_unreadable 15 rfl) (by decide) ?_
    obtain ⟨h8, h9⟩ := Prod.mk.inj (Option.some.inj h)
    subst h8
    subst h9
    exact g_iret C E rfl rfl (Nat.le_refl 0) (Nat.le_refl 0) (dk kX7_unreadable 21 rfl)
theorem ct_X7_unreadable {l : Launch} {Z : ZZ} {μ : Mm} {a0 : Nat} {a1 : Int32} {a2 : Int32} {a3 : Int32} {r : Int32} {μ' : Mm} (k0 : (zk Z a0).1 = 5) (h : f_X7_unreadable (zk Z) μ a0 a1 a2 a3 = some (r, μ')) : CtM l Z false yX7_unreadable cX7_unreadable 4 (some .int) 3 0 0 [.ref (za Z a0), .int a1, .int a2, .int a3] μ (some (.int r)) Z μ' := ct_of rfl rfl (Nat.le_of_ble_eq_true rfl) (fun X C E => t_X7_unreadable μ a0 a1 a2 a3 r μ' k0 h C E)
