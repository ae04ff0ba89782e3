def qX7_save : List (Nat × Instr × Nat) := [(0, .aload_n 0, 1), (1, .getfield 209, 3), (4, .iconst 4, 1), (5, .if_icmp .ne 54, 3), (8, .aload_n 0, 1), (9, .getfield 18, 3), (12, .iconst 0, 1), (13, .aaload, 1), (14, .astore_n 1, 1), (15, .iconst 1, 1), (16, .istore_n 2, 1), (17, .iload_n 2, 1), (18, .iconst 4, 1), (19, .if_icmp .ge 23, 3), (22, .aload_n 0, 1), (23, .getfield 18, 3), (26, .iload_n 2, 1), (27, .iconst 1, 1), (28, .isub, 1), (29, .aload_n 0, 1), (30, .getfield 18, 3), (33, .iload_n 2, 1), (34, .aaload, 1), (35, .aastore, 1), (36, .iinc 2 1, 3), (39, .goto (-22), 3), (42, .aload_n 0, 1), (43, .getfield 18, 3), (46, .iconst 3, 1), (47, .aload_n 1, 1), (48, .aastore, 1), (49, .aload_n 0, 1), (50, .dup, 1), (51, .getfield 209, 3), (54, .iconst 1, 1), (55, .isub, 1), (56, .putfield 209, 3), (59, .aload_n 0, 1), (60, .getfield 18, 3), (63, .aload_n 0, 1), (64, .getfield 209, 3), (67, .aaload, 1), (68, .aload_n 0, 1), (69, .getfield 28, 3), (72, .invokevirtual 212, 3), (75, .aload_n 0, 1), (76, .dup, 1), (77, .getfield 209, 3), (80, .iconst 1, 1), (81, .iadd, 1), (82, .putfield 209, 3), (85, .return_, 1)]
theorem kX7_save : ∀ q ∈ qX7_save, decode cX7_save q.1 = .ok q.2 := by decide +kernel
def f_X7_save_l17 (K : Nat → Nat × Nat) (v0 : Nat) (v1 : Nat) : Nat → Mm → Int32 → Option (Mm)
  | 0, _, _ => none
  | n + 1, μ, v2 => if 4 ≤ v2 then (some μ) else (bd (rf K μ v0 1 11) fun b13 => bd (rf K μ v0 1 11) fun b14 => gd (inb v2 (K b14).2) <| bd (rf K μ b14 (ix v2) 4) fun b16 => gd (inb (v2 - 1) (K b13).2) <| lt1 (sR μ b13 (ix (v2 - 1)) (some b16)) fun μ18 => lt1 (α := Int32) (v2 + 1) fun x19 => f_X7_save_l17 K v0 v1 n μ18 x19)
def f_X7_save (K : Nat → Nat × Nat) (μ : Mm) (a0 : Nat) : Option (Mm) :=
  if (μ.1 a0 2) = 4 then (bd (rf K μ a0 1 11) fun b9 => gd (inb 0 (K b9).2) <| bd (rf K μ b9 (ix 0) 4) fun b11 => bd (f_X7_save_l17 K a0 b11 FU μ 1) fun q20 => lt1 q20 fun μ21 => bd (rf K μ21 a0 1 11) fun b22 => gd (inb 3 (K b22).2) <| lt1 (sR μ21 b22 (ix 3) (some b11)) fun μ24 => lt1 (sI μ24 a0 2 ((μ24.1 a0 2) - 1)) fun μ25 => bd (rf K μ25 a0 1 11) fun b26 => gd (inb (μ25.1 a0 2) (K b26).2) <| bd (rf K μ25 b26 (ix (μ25.1 a0 2)) 4) fun b28 => bd (rf K μ25 a0 3 4) fun b29 => bd (f_X5_takeOver K μ25 b28 b29) fun μ31 => lt1 (sI μ31 a0 2 ((μ31.1 a0 2) + 1)) fun μ32 => some (μ32)) else (bd (rf K μ a0 1 11) fun b2 => gd (inb (μ.1 a0 2) (K b2).2) <| bd (rf K μ b2 (ix (μ.1 a0 2)) 4) fun b4 => bd (rf K μ a0 3 4) fun b5 => bd (f_X5_takeOver K μ b4 b5) fun μ7 => lt1 (sI μ7 a0 2 ((μ7.1 a0 2) + 1)) fun μ8 => some (μ8))
set_option maxRecDepth 100000 in
set_option maxHeartbeats 4000000 in
theorem gl_X7_save_17 {l : Launch} {Z : ZZ} {X : XX} (v0 : Nat) (v1 : Nat) (k0 : (zk Z v0).1 = 5) (k1 : (zk Z v1).1 = 4) (C : Cx l Z false X cX7_save RX7 3 none) (E : xR X = rmm 3 0 0) : ∀ (n : Nat) (μ : Mm) (v2 : Int32) (y : Mm), f_X7_save_l17 (zk Z) v0 v1 n μ v2 = some y → G Z X 3 0 0 42 [(0, .ref (za Z v0)), (1, .ref (za Z v1))] [] y → G Z X 3 0 0 17 [(0, .ref (za Z v0)), (1, .ref (za Z v1)), (2, .int v2)] [] μ := by
  intro n
  induction n with
  | zero => intro μ v2 y h he; unfold f_X7_save_l17 at h; cases h
  | succ n ih =>
    intro μ v2 y h he
    unfold f_X7_save_l17 at h
    refine g_iload_n C (i := 2) 2 rfl rfl (dk kX7_save 11 rfl) ?_
    refine g_iconst C (v := 4) (by decide) (dk kX7_save 12 rfl) ?_
    refine g_icmp_ge C (tgt := 42) (dk kX7_save 13 rfl) (by decide) (fun c12 => ?_) (fun c12 => ?_)
    · replace h := ite_t h c12
      cases h
      exact g_sub [0, 1] rfl he
    · replace h := ite_f h c12
      refine g_aload_n C (i := 0) 0 rfl rfl (dk kX7_save 14 rfl) ?_
      obtain ⟨b13, eb13, h⟩ := bd_inv h
      obtain ⟨rb13, kb13⟩ := rf_inv eb13
      refine gR_5_1 C k0 (C.w wd_1_201) rb13 (dk kX7_save 15 rfl) ?_
      refine g_iload_n C (i := 2) 2 rfl rfl (dk kX7_save 16 rfl) ?_
      refine g_iconst C (v := 1) (by decide) (dk kX7_save 17 rfl) ?_
      refine g_isub C (dk kX7_save 18 rfl) ?_
      refine g_aload_n C (i := 0) 0 rfl rfl (dk kX7_save 19 rfl) ?_
      obtain ⟨b14, eb14, h⟩ := bd_inv h
      obtain ⟨rb14, kb14⟩ := rf_inv eb14
      refine gR_5_1 C k0 (C.w wd_1_201) rb14 (dk kX7_save 20 rfl) ?_
      refine g_iload_n C (i := 2) 2 rfl rfl (dk kX7_save 21 rfl) ?_
      obtain ⟨c15, h⟩ := gd_inv h
      obtain ⟨b16, eb16, h⟩ := bd_inv h
      obtain ⟨rb16, kb16⟩ := rf_inv eb16
      refine gA_11 C kb14 c15 rb16 (dk kX7_save 22 rfl) ?_
      obtain ⟨c17, h⟩ := gd_inv h
      obtain ⟨μ18, eμ18, h⟩ := lt_inv h
      refine pA_11 C kb13 c17 kb16 eμ18 (dk kX7_save 23 rfl) ?_
      obtain ⟨x19, ex19, h⟩ := lt_inv h
      refine g_iinc C (i := 2) (v := x19) (lv' := [(2, .int x19), (0, .ref (za Z v0)), (1, .ref (za Z v1))]) 2 (dk kX7_save 24 rfl) rfl (by rw [ex19]; rfl) (by decide) rfl ?_
      refine g_goto C (tgt := 17) (dk kX7_save 25 rfl) (by decide) ?_
      exact g_sub [1, 2, 0] rfl (ih μ18 x19 y h he)
set_option maxRecDepth 100000 in
set_option maxHeartbeats 4000000 in
theorem t_X7_save {l : Launch} {Z : ZZ} {X : XX} (μ : Mm) (a0 : Nat) (μ' : Mm) (k0 : (zk Z a0).1 = 5) (h : f_X7_save (zk Z) μ a0 = some μ') (C : Cx l Z false X cX7_save RX7 3 none) (E : Ex Z X 3 0 0 none Z μ') : G Z X 3 0 0 0 [(0, .ref (za Z a0))] [] μ := by
  unfold f_X7_save at h
  refine g_aload_n C (i := 0) 0 rfl rfl (dk kX7_save 0 rfl) ?_
  refine gI_5_2 C k0 (C.w wd_1_202) (dk kX7_save 1 rfl) ?_
  refine g_iconst C (v := 4) (by decide) (dk kX7_save 2 rfl) ?_
  refine g_icmp_ne C (tgt := 59) (dk kX7_save 3 rfl) (by decide) (fun c1 => ?_) (fun c1 => ?_)
  · replace h := ite_f h c1
    refine g_aload_n C (i := 0) 0 rfl rfl (dk kX7_save 37 rfl) ?_
    obtain ⟨b2, eb2, h⟩ := bd_inv h
    obtain ⟨rb2, kb2⟩ := rf_inv eb2
    refine gR_5_1 C k0 (C.w wd_1_201) rb2 (dk kX7_save 38 rfl) ?_
    refine g_aload_n C (i := 0) 0 rfl rfl (dk kX7_save 39 rfl) ?_
    refine gI_5_2 C k0 (C.w wd_1_202) (dk kX7_save 40 rfl) ?_
    obtain ⟨c3, h⟩ := gd_inv h
    obtain ⟨b4, eb4, h⟩ := bd_inv h
    obtain ⟨rb4, kb4⟩ := rf_inv eb4
    refine gA_11 C kb2 c3 rb4 (dk kX7_save 41 rfl) ?_
    refine g_aload_n C (i := 0) 0 rfl rfl (dk kX7_save 42 rfl) ?_
    obtain ⟨b5, eb5, h⟩ := bd_inv h
    obtain ⟨rb5, kb5⟩ := rf_inv eb5
    refine gR_5_3 C k0 (C.w wd_1_203) rb5 (dk kX7_save 43 rfl) ?_
    obtain ⟨μ7, eq6, h⟩ := bd_inv h
    refine g_callV C E.2 (rest := []) 1 (ct_X5_takeOver kb4 kb5 eq6) wd_2_87 mm_X5_takeOver ⟨rfl, by decide, by decide, by decide⟩ rfl (by decide) kb4 (by decide) rfl rfl (Nat.le_of_ble_eq_true rfl) (by decide) (dk kX7_save 44 rfl) ?_
    refine g_aload_n C (i := 0) 0 rfl rfl (dk kX7_save 45 rfl) ?_
    refine g_dup C rfl (dk kX7_save 46 rfl) ?_
    refine gI_5_2 C k0 (C.w wd_1_202) (dk kX7_save 47 rfl) ?_
    refine g_iconst C (v := 1) (by decide) (dk kX7_save 48 rfl) ?_
    refine g_iadd C (dk kX7_save 49 rfl) ?_
    obtain ⟨μ8, eμ8, h⟩ := lt_inv h
    refine pI_5_2 C k0 (C.w wd_1_202) eμ8 (dk kX7_save 50 rfl) ?_
    have h9 := Option.some.inj h
    subst h9
    exact g_vret C E (Nat.le_refl 0) (Nat.le_refl 0) (dk kX7_save 51 rfl)
  · replace h := ite_t h c1
    refine g_aload_n C (i := 0) 0 rfl rfl (dk kX7_save 4 rfl) ?_
    obtain ⟨b9, eb9, h⟩ := bd_inv h
    obtain ⟨rb9, kb9⟩ := rf_inv eb9
    refine gR_5_1 C k0 (C.w wd_1_201) rb9 (dk kX7_save 5 rfl) ?_
    refine g_iconst C (v := 0) (by decide) (dk kX7_save 6 rfl) ?_
    obtain ⟨c10, h⟩ := gd_inv h
    obtain ⟨b11, eb11, h⟩ := bd_inv h
    obtain ⟨rb11, kb11⟩ := rf_inv eb11
    refine gA_11 C kb9 c10 rb11 (dk kX7_save 7 rfl) ?_
    refine g_astore_n C (i := 1) (lv' := [(1, .ref (za Z b11)), (0, .ref (za Z a0))]) (dk kX7_save 8 rfl) rfl (by decide) rfl ?_
    refine g_iconst C (v := 1) (by decide) (dk kX7_save 9 rfl) ?_
    refine g_istore_n C (i := 2) (lv' := [(2, .int 1), (1, .ref (za Z b11)), (0, .ref (za Z a0))]) (dk kX7_save 10 rfl) rfl (by decide) rfl ?_
    obtain ⟨q20, eq20, h⟩ := bd_inv h
    refine g_sub [2, 1, 0] (lv' := [(0, .ref (za Z a0)), (1, .ref (za Z b11)), (2, .int 1)]) rfl ?_
    refine gl_X7_save_17 a0 b11 k0 kb11 C E.2 FU μ 1 _ eq20 ?_
    obtain ⟨μ21, eμ21, h⟩ := lt_inv h
    rw [← eμ21]
    refine g_aload_n C (i := 0) 0 rfl rfl (dk kX7_save 26 rfl) ?_
    obtain ⟨b22, eb22, h⟩ := bd_inv h
    obtain ⟨rb22, kb22⟩ := rf_inv eb22
    refine gR_5_1 C k0 (C.w wd_1_201) rb22 (dk kX7_save 27 rfl) ?_
    refine g_iconst C (v := 3) (by decide) (dk kX7_save 28 rfl) ?_
    refine g_aload_n C (i := 1) 1 rfl rfl (dk kX7_save 29 rfl) ?_
    obtain ⟨c23, h⟩ := gd_inv h
    obtain ⟨μ24, eμ24, h⟩ := lt_inv h
    refine pA_11 C kb22 c23 kb11 eμ24 (dk kX7_save 30 rfl) ?_
    refine g_aload_n C (i := 0) 0 rfl rfl (dk kX7_save 31 rfl) ?_
    refine g_dup C rfl (dk kX7_save 32 rfl) ?_
    refine gI_5_2 C k0 (C.w wd_1_202) (dk kX7_save 33 rfl) ?_
    refine g_iconst C (v := 1) (by decide) (dk kX7_save 34 rfl) ?_
    refine g_isub C (dk kX7_save 35 rfl) ?_
    obtain ⟨μ25, eμ25, h⟩ := lt_inv h
    refine pI_5_2 C k0 (C.w wd_1_202) eμ25 (dk kX7_save 36 rfl) ?_
    refine g_aload_n C (i := 0) 0 rfl rfl (dk kX7_save 37 rfl) ?_
    obtain ⟨b26, eb26, h⟩ := bd_inv h
    obtain ⟨rb26, kb26⟩ := rf_inv eb26
    refine gR_5_1 C k0 (C.w wd_1_201) rb26 (dk kX7_save 38 rfl) ?_
    refine g_aload_n C (i := 0) 0 rfl rfl (dk kX7_save 39 rfl) ?_
    refine gI_5_2 C k0 (C.w wd_1_202) (dk kX7_save 40 rfl) ?_
    obtain ⟨c27, h⟩ := gd_inv h
    obtain ⟨b28, eb28, h⟩ := bd_inv h
    obtain ⟨rb28, kb28⟩ := rf_inv eb28
    refine gA_11 C kb26 c27 rb28 (dk kX7_save 41 rfl) ?_
    refine g_aload_n C (i := 0) 0 rfl rfl (dk kX7_save 42 rfl) ?_
    obtain ⟨b29, eb29, h⟩ := bd_inv h
    obtain ⟨rb29, kb29⟩ := rf_inv eb29
    refine gR_5_3 C k0 (C.w wd_1_203) rb29 (dk kX7_save 43 rfl) ?_
    obtain ⟨μ31, eq30, h⟩ := bd_inv h
    refine g_callV C E.2 (rest := []) 1 (ct_X5_takeOver kb28 kb29 eq30) wd_2_87 mm_X5_takeOver ⟨rfl, by decide, by decide, by decide⟩ rfl (by decide) kb28 (by decide) rfl rfl (Nat.le_of_ble_eq_true rfl) (by decide) (dk kX7_save 44 rfl) ?_
    refine g_aload_n C (i := 0) 0 rfl rfl (dk kX7_save 45 rfl) ?_
    refine g_dup C rfl (dk kX7_save 46 rfl) ?_
    refine gI_5_2 C k0 (C.w wd_1_202) (dk kX7_save 47 rfl) ?_
    refine g_iconst C (v := 1) (by decide) (dk kX7_save 48 rfl) ?_
    refine g_iadd C (dk kX7_save 49 rfl) ?_
    obtain ⟨μ32, eμ32, h⟩ := lt_inv h
    refine pI_5_2 C k0 (C.w wd_1_202) eμ32 (dk kX7_save 50 rfl) ?_
    have h9 := Option.some.inj h
    subst h9
    exact g_vret C E (Nat.le_refl 0) (Nat.le_refl 0) (dk kX7_save 51 rfl)
theorem ct_X7_save {l : Launch} {Z : ZZ} {μ : Mm} {a0 : Nat} {μ' : Mm} (k0 : (zk Z a0).1 = 5) (h : f_X7_save (zk Z) μ a0 = some μ') : CtM l Z false yX7_save cX7_save 3 none 3 0 0 [.ref (za Z a0)] μ none Z μ' := ct_of rfl rfl (Nat.le_of_ble_eq_true rfl) (fun X C E => t_X7_save μ a0 μ' k0 h C E)

def qX7_clearCommands : List (Nat × Instr × Nat) := [(0, .aload_n 0, 1), (1, .getfield 10, 3), (4, .invokevirtual 182, 3), (7, .ireturn, 1)]
theorem kX7_clearCommands : ∀ q ∈ qX7_clearCommands, decode cX7_clearCommands q.1 = .ok q.2 := by decide +kernel
def f_X7_clearCommands (K : Nat → Nat × Nat) (μ : Mm) (a0 : Nat) : Option (Int32 × Mm) :=
  bd (rf K μ a0 0 0) fun b1 => bd (f_X1_empty K μ b1) fun q2 => lt1 q2.1 fun x4 => lt1 q2.2 fun μ3 => some (x4, μ3)
set_option maxRecDepth 100000 in
set_option maxHeartbeats 4000000 in
theorem t_X7_clearCommands {l : Launch} {Z : ZZ} {X : XX} (μ : Mm) (a0 : Nat) (r : Int32) (μ' : Mm) (k0 : (zk Z a0).1 = 5) (h : f_X7_clearCommands (zk Z) μ a0 = some (r, μ')) (C : Cx l Z false X cX7_clearCommands RX7 1 (some .int)) (E : Ex Z X 1 0 0 (some (.int r)) Z μ') : G Z X 1 0 0 0 [(0, .ref (za Z a0))] [] μ := by
  unfold f_X7_clearCommands at h
  refine g_aload_n C (i := 0) 0 rfl rfl (dk kX7_clearCommands 0 rfl) ?_
  obtain ⟨b1, eb1, h⟩ := bd_inv h
  obtain ⟨rb1, kb1⟩ := rf_inv eb1
  refine gR_5_0 C k0 (C.w wd_1_200) rb1 (dk kX7_clearCommands 1 rfl) ?_
  obtain ⟨q2, eq2, h⟩ := bd_inv h
  obtain ⟨x4, ex4, h⟩ := lt_inv h
  obtain ⟨μ3, eμ3, h⟩ := lt_inv h
  rw [show q2 = (x4, μ3) from by rw [ex4, eμ3]] at eq2
  refine g_callV C E.2 (rest := []) 0 (ct_X1_empty kb1 eq2) wd_1_225 mm_X1_empty ⟨rfl, by decide, by decide, by decide⟩ rfl (by decide) kb1 (by decide) rfl rfl (Nat.le_of_ble_eq_true rfl) (by decide) (dk kX7_clearCommands 2 rfl) ?_
  obtain ⟨h8, h9⟩ := Prod.mk.inj (Option.some.inj h)
  subst h8
  subst h9
  exact g_iret C E rfl rfl (Nat.le_refl 0) (Nat.le_refl 0) (dk kX7_clearCommands 3 rfl)
theorem ct_X7_clearCommands {l : Launch} {Z : ZZ} {μ : Mm} {a0 : Nat} {r : Int32} {μ' : Mm} (k0 : (zk Z a0).1 = 5) (h : f_X7_clearCommands (zk Z) μ a0 = some (r, μ')) : CtM l Z false yX7_clearCommands cX7_clearCommands 1 (some .int) 1 0 0 [.ref (za Z a0)] μ (some (.int r)) Z μ' := ct_of rfl rfl (Nat.le_of_ble_eq_true rfl) (fun X C E => t_X7_clearCommands μ a0 r μ' k0 h C E)

def qX7_mix : List (Nat × Instr × Nat) := [(0, .ldc2_w 247, 3), (3, .lload_n 0, 1), (4, .lmul, 1), (5, .lload_n 2, 1), (6, .ladd, 1), (7, .lreturn, 1)]
theorem kX7_mix : ∀ q ∈ qX7_mix, decode cX7_mix q.1 = .ok q.2 := by decide +kernel
def f_X7_mix (a0 : Int64) (a2 : Int64) : Option (Int64) :=
  some ((31 * a0) + a2)
set_option maxRecDepth 100000 in
set_option maxHeartbeats 4000000 in
theorem t_X7_mix {l : Launch} {Z : ZZ} {X : XX} (μ : Mm) (a0 : Int64) (a2 : Int64) (r : Int64)  (h : f_X7_mix a0 a2 = some r) (C : Cx l Z false X cX7_mix RX7 4 (some .long)) (E : Ex Z X 0 0 0 (some (.long r)) Z μ) : G Z X 4 0 0 0 [(0, .long a0), (2, .long a2)] [] μ := by
  unfold f_X7_mix at h
  refine g_ldc2 C (v := 31) (C.w wd_3_98) (dk kX7_mix 0 rfl) ?_
  refine g_lload_n C (i := 0) 0 rfl rfl (dk kX7_mix 1 rfl) ?_
  refine g_lmul C (dk kX7_mix 2 rfl) ?_
  refine g_lload_n C (i := 2) 1 rfl rfl (dk kX7_mix 3 rfl) ?_
  refine g_ladd C (dk kX7_mix 4 rfl) ?_
  have h9 := Option.some.inj h
  subst h9
  exact g_lret C E (Nat.le_refl 0) (Nat.le_refl 0) (dk kX7_mix 5 rfl)
theorem ct_X7_mix {l : Launch} {Z : ZZ} {μ : Mm} {a0 : Int64} {a2 : Int64} {r : Int64}  (h : f_X7_mix a0 a2 = some r) : CtM l Z false yX7_mix cX7_mix 4 (some .long) 0 0 0 [.long a0, .long a2] μ (some (.long r)) Z μ := ct_of rfl rfl (Nat.le_of_ble_eq_true rfl) (fun X C E => t_X7_mix μ a0 a2 r  h C E)

def qX7_mixDots : List (Nat × Instr × Nat) := [(0, .lload_n 1, 1), (1, .lstore_n 3, 1), (2, .iconst 0, 1), (3, .istore 5, 2), (5, .iload 5, 2), (7, .aload_n 0, 1), (8, .getfield 28, 3), (11, .getfield 169, 3), (14, .getfield 238, 3), (17, .if_icmp .ge 41, 3), (20, .iconst 0, 1), (21, .istore 6, 2), (23, .iload 6, 2), (25, .iconst 5, 1), (26, .if_icmp .ge 26, 3), (29, .lload_n 3, 1), (30, .aload_n 0, 1), (31, .getfield 28, 3), (34, .iload 5, 2), (36, .iload 6, 2), (38, .invokevirtual 112, 3), (41, .i2l, 1), (42, .invokestatic 218, 3), (45, .lstore_n 3, 1), (46, .iinc 6 1, 3), (49, .goto (-26), 3), (52, .iinc 5 1, 3), (55, .goto (-50), 3), (58, .lload_n 3, 1), (59, .lreturn, 1)]
theorem kX7_mixDots : ∀ q ∈ qX7_mixDots, decode cX7_mixDots q.1 = .ok q.2 := by decide +kernel
def f_X7_mixDots_l23 (K : Nat → Nat × Nat) (μ : Mm) (v0 : Nat) (v5 : Int32) : Nat → Int64 → Int32 → Option (Int64)
  | 0, _, _ => none
  | n + 1, v3, v6 => if 5 ≤ v6 then (some v3) else (bd (rf K μ v0 3 4) fun b5 => bd (f_X5_dotValue K μ b5 v5 v6) fun x7 => bd (f_X7_mix v3 (Int32.toInt64 x7)) fun x9 => lt1 (α := Int32) (v6 + 1) fun x10 => f_X7_mixDots_l23 K μ v0 v5 n x9 x10)
def f_X7_mixDots_l5 (K : Nat → Nat × Nat) (μ : Mm) (v0 : Nat) : Nat → Int64 → Int32 → Option (Int64)
  | 0, _, _ => none
  | n + 1, v3, v5 => bd (rf K μ v0 3 4) fun b1 => bd (rf K μ b1 0 2) fun b2 => if (μ.1 b2 0) ≤ v5 then (some v3) else (bd (f_X7_mixDots_l23 K μ v0 v5 FU v3 0) fun q11 => lt1 q11 fun x12 => lt1 (α := Int32) (v5 + 1) fun x13 => f_X7_mixDots_l5 K μ v0 n x12 x13)
def f_X7_mixDots (K : Nat → Nat × Nat) (μ : Mm) (a0 : Nat) (a1 : Int64) : Option (Int64) :=
  bd (f_X7_mixDots_l5 K μ a0 FU a1 0) fun q14 => lt1 q14 fun x15 => some x15
set_option maxRecDepth 100000 in
set_option maxHeartbeats 4000000 in
theorem gl_X7_mixDots_23 {l : Launch} {Z : ZZ} {X : XX} (v0 : Nat) (v5 : Int32) (k0 : (zk Z v0).1 = 5) (μ : Mm) (C : Cx l Z false X cX7_mixDots RX7 7 (some .long)) (E : xR X = rmm 3 0 0) : ∀ (n : Nat) (v3 : Int64) (v6 : Int32) (y : Int64), f_X7_mixDots_l23 (zk Z) μ v0 v5 n v3 v6 = some y → G Z X 7 0 0 52 [(0, .ref (za Z v0)), (3, .long y), (5, .int v5)] [] (μ) → G Z X 7 0 0 23 [(0, .ref (za Z v0)), (3, .long v3), (5, .int v5), (6, .int v6)] [] μ := by
  intro n
  induction n with
  | zero => intro v3 v6 y h he; unfold f_X7_mixDots_l23 at h; cases h
  | succ n ih =>
    intro v3 v6 y h he
    unfold f_X7_mixDots_l23 at h
    refine g_iload C (i := 6) 3 rfl (dk kX7_mixDots 12 rfl) ?_
    refine g_iconst C (v := 5) (by decide) (dk kX7_mixDots 13 rfl) ?_
    refine g_icmp_ge C (tgt := 52) (dk kX7_mixDots 14 rfl) (by decide) (fun c4 => ?_) (fun c4 => ?_)
    · replace h := ite_t h c4
      cases h
      exact g_sub [0, 1, 2] rfl he
    · replace h := ite_f h c4
      refine g_lload_n C (i := 3) 1 rfl rfl (dk kX7_mixDots 15 rfl) ?_
      refine g_aload_n C (i := 0) 0 rfl rfl (dk kX7_mixDots 16 rfl) ?_
      obtain ⟨b5, eb5, h⟩ := bd_inv h
      obtain ⟨rb5, kb5⟩ := rf_inv eb5
      refine gR_5_3 C k0 (C.w wd_1_203) rb5 (dk kX7_mixDots 17 rfl) ?_
      refine g_iload C (i := 5) 2 rfl (dk kX7_mixDots 18 rfl) ?_
      refine g_iload C (i := 6) 3 rfl (dk kX7_mixDots 19 rfl) ?_
      obtain ⟨x7, eq6, h⟩ := bd_inv h
      refine g_callV C E (rest := [.long v3]) 2 (ct_X5_dotValue kb5 eq6) wd_3_226 mm_X5_dotValue ⟨rfl, by decide, by decide, by decide⟩ rfl (by decide) kb5 (by decide) rfl rfl (Nat.le_of_ble_eq_true rfl) (by decide) (dk kX7_mixDots 20 rfl) ?_
      refine g_i2l C (dk kX7_mixDots 21 rfl) ?_
      obtain ⟨x9, eq8, h⟩ := bd_inv h
      refine g_callS C E (rest := []) 2 (ct_X7_mix  eq8) wd_3_95 mm_X7_mix ⟨by decide, by decide, by decide⟩ rfl (by decide) rfl (Nat.le_of_ble_eq_true rfl) (by decide) (dk kX7_mixDots 22 rfl) ?_
      refine g_lstore_n C (i := 3) (lv' := [(3, .long x9), (0, .ref (za Z v0)), (5, .int v5), (6, .int v6)]) (dk kX7_mixDots 23 rfl) rfl (by decide) rfl ?_
      obtain ⟨x10, ex10, h⟩ := lt_inv h
      refine g_iinc C (i := 6) (v := x10) (lv' := [(6, .int x10), (3, .long x9), (0, .ref (za Z v0)), (5, .int v5)]) 3 (dk kX7_mixDots 24 rfl) rfl (by rw [ex10]; rfl) (by decide) rfl ?_
      refine g_goto C (tgt := 23) (dk kX7_mixDots 25 rfl) (by decide) ?_
      exact g_sub [2, 1, 3, 0] rfl (ih x9 x10 y h he)
set_option maxRecDepth 100000 in
set_option maxHeartbeats 4000000 in
theorem gl_X7_mixDots_5 {l : Launch} {Z : ZZ} {X : XX} (v0 : Nat) (k0 : (zk Z v0).1 = 5) (μ : Mm) (C : Cx l Z false X cX7_mixDots RX7 7 (some .long)) (E : xR X = rmm 3 0 0) : ∀ (n : Nat) (v3 : Int64) (v5 : Int32) (y : Int64), f_X7_mixDots_l5 (zk Z) μ v0 n v3 v5 = some y → G Z X 7 0 0 58 [(3, .long y)] [] (μ) → G Z X 7 0 0 5 [(0, .ref (za Z v0)), (3, .long v3), (5, .int v5)] [] μ := by
  intro n
  induction n with
  | zero => intro v3 v5 y h he; unfold f_X7_mixDots_l5 at h; cases h
  | succ n ih =>
    intro v3 v5 y h he
    unfold f_X7_mixDots_l5 at h
    refine g_iload C (i := 5) 2 rfl (dk kX7_mixDots 4 rfl) ?_
    refine g_aload_n C (i := 0) 0 rfl rfl (dk kX7_mixDots 5 rfl) ?_
    obtain ⟨b1, eb1, h⟩ := bd_inv h
    obtain ⟨rb1, kb1⟩ := rf_inv eb1
    refine gR_5_3 C k0 (C.w wd_1_203) rb1 (dk kX7_mixDots 6 rfl) ?_
    obtain ⟨b2, eb2, h⟩ := bd_inv h
    obtain ⟨rb2, kb2⟩ := rf_inv eb2
    refine gRN_4_0 C kb1 (nf_25 C) rb2 (dk kX7_mixDots 7 rfl) ?_
    refine gIN_2_0 C kb2 (nf_4 C) (dk kX7_mixDots 8 rfl) ?_
    refine g_icmp_ge C (tgt := 58) (dk kX7_mixDots 9 rfl) (by decide) (fun c3 => ?_) (fun c3 => ?_)
    · replace h := ite_t h c3
      cases h
      exact g_sub [1] rfl he
    · replace h := ite_f h c3
      refine g_iconst C (v := 0) (by decide) (dk kX7_mixDots 10 rfl) ?_
      refine g_istore C (i := 6) (lv' := [(6, .int 0), (0, .ref (za Z v0)), (3, .long v3), (5, .int v5)]) (dk kX7_mixDots 11 rfl) (by decide) rfl ?_
      obtain ⟨q11, eq11, h⟩ := bd_inv h
      refine g_sub [1, 2, 3, 0] (lv' := [(0, .ref (za Z v0)), (3, .long v3), (5, .int v5), (6, .int 0)]) rfl ?_
      refine gl_X7_mixDots_23 v0 v5 k0 μ C E FU v3 0 _ eq11 ?_
      obtain ⟨x12, ex12, h⟩ := lt_inv h
      rw [← ex12]
      obtain ⟨x13, ex13, h⟩ := lt_inv h
      refine g_iinc C (i := 5) (v := x13) (lv' := [(5, .int x13), (0, .ref (za Z v0)), (3, .long x12)]) 2 (dk kX7_mixDots 26 rfl) rfl (by rw [ex13]; rfl) (by decide) rfl ?_
      refine g_goto C (tgt := 5) (dk kX7_mixDots 27 rfl) (by decide) ?_
      exact g_sub [1, 2, 0] rfl (ih x12 x13 y h he)
set_option maxRecDepth 100000 in
set_option maxHeartbeats 4000000 in
theorem t_X7_mixDots {l : Launch} {Z : ZZ} {X : XX} (μ : Mm) (a0 : Nat) (a1 : Int64) (r : Int64) (k0 : (zk Z a0).1 = 5) (h : f_X7_mixDots (zk Z) μ a0 a1 = some r) (C : Cx l Z false X cX7_mixDots RX7 7 (some .long)) (E : Ex Z X 3 0 0 (some (.long r)) Z μ) : G Z X 7 0 0 0 [(0, .ref (za Z a0)), (1, .long a1)] [] μ := by
  unfold f_X7_mixDots at h
  refine g_lload_n C (i := 1) 1 rfl rfl (dk kX7_mixDots 0 rfl) ?_
  refine g_lstore_n C (i := 3) (lv' := [(3, .long a1), (0, .ref (za Z a0)), (1, .long a1)]) (dk kX7_mixDots 1 rfl) rfl (by decide) rfl ?_
  refine g_iconst C (v := 0) (by decide) (dk kX7_mixDots 2 rfl) ?_
  refine g_istore C (i := 5) (lv' := [(5, .int 0), (3, .long a1), (0, .ref (za Z a0)), (1, .long a1)]) (dk kX7_mixDots 3 rfl) (by decide) rfl ?_
  obtain ⟨q14, eq14, h⟩ := bd_inv h
  refine g_sub [2, 1, 0] (lv' := [(0, .ref (za Z a0)), (3, .long a1), (5, .int 0)]) rfl ?_
  refine gl_X7_mixDots_5 a0 k0 μ C E.2 FU a1 0 _ eq14 ?_
  obtain ⟨x15, ex15, h⟩ := lt_inv h
  rw [← ex15]
  refine g_lload_n C (i := 3) 0 rfl rfl (dk kX7_mixDots 28 rfl) ?_
  have h9 := Option.some.inj h
  subst h9
  exact g_lret C E (Nat.le_refl 0) (Nat.le_refl 0) (dk kX7_mixDots 29 rfl)
theorem ct_X7_mixDots {l : Launch} {Z : ZZ} {μ : Mm} {a0 : Nat} {a1 : Int64} {r : Int64} (k0 : (zk Z a0).1 = 5) (h : f_X7_mixDots (zk Z) μ a0 a1 = some r) : CtM l Z false yX7_mixDots cX7_mixDots 7 (some .long) 3 0 0 [.ref (za Z a0), .long a1] μ (some (.long r)) Z μ := ct_of rfl rfl (Nat.le_of_ble_eq_true rfl) (fun X C E => t_X7_mixDots μ a0 a1 r k0 h C E)

def qX7_mixLabels : List (Nat × Instr × Nat) := [(0, .lload_n 1, 1), (1, .lstore_n 3, 1), (2, .iconst 0, 1), (3, .istore 5, 2), (5, .iload 5, 2), (7, .aload_n 0, 1), (8, .getfield 28, 3), (11, .getfield 241, 3), (14, .if_icmp .ge 80, 3), (17, .aload_n 0, 1), (18, .getfield 28, 3), (21, .getfield 118, 3), (24, .iload 5, 2), (26, .aaload, 1), (27, .astore 6, 2), (29, .iconst 0, 1), (30, .istore 7, 2), (32, .iload 7, 2), (34, .bipush 6, 2), (36, .if_icmp .ge 22, 3), (39, .lload_n 3, 1), (40, .aload 6, 2), (42, .iload 7, 2), (44, .invokevirtual 122, 3), (47, .i2l, 1), (48, .invokestatic 218, 3), (51, .lstore_n 3, 1), (52, .iinc 7 1, 3), (55, .goto (-23), 3), (58, .iconst 0, 1), (59, .istore 7, 2), (61, .iload 7, 2), (63, .bipush 6, 2), (65, .if_icmp .ge 23, 3), (68, .lload_n 3, 1), (69, .aload 6, 2), (71, .getfield 127, 3), (74, .iload 7, 2), (76, .iaload, 1), (77, .i2l, 1), (78, .invokestatic 218, 3), (81, .lstore_n 3, 1), (82, .iinc 7 1, 3), (85, .goto (-24), 3), (88, .iinc 5 1, 3), (91, .goto (-86), 3), (94, .lload_n 3, 1), (95, .lreturn, 1)]
theorem kX7_mixLabels : ∀ q ∈ qX7_mixLabels, decode cX7_mixLabels q.1 = .ok q.2 := by decide +kernel
def f_X7_mixLabels_l32 (K : Nat → Nat × Nat) (μ : Mm) (v0 : Nat) (v5 : Int32) (v6 : Nat) : Nat → Int64 → Int32 → Option (Int64)
  | 0, _, _ => none
  | n + 1, v3, v7 => if 6 ≤ v7 then (some v3) else (bd (f_X4_value K μ v6 v7) fun x9 => bd (f_X7_mix v3 (Int32.toInt64 x9)) fun x11 => lt1 (α := Int32) (v7 + 1) fun x12 => f_X7_mixLabels_l32 K μ v0 v5 v6 n x11 x12)
def f_X7_mixLabels_l61 (K : Nat → Nat × Nat) (μ : Mm) (v0 : Nat) (v5 : Int32) (v6 : Nat) : Nat → Int64 → Int32 → Option (Int64)
  | 0, _, _ => none
  | n + 1, v3, v7 => if 6 ≤ v7 then (some v3) else (bd (rf K μ v6 4 8) fun b16 => gd (inb v7 (K b16).2) <| bd (f_X7_mix v3 (Int32.toInt64 (μ.1 b16 (ix v7)))) fun x19 => lt1 (α := Int32) (v7 + 1) fun x20 => f_X7_mixLabels_l61 K μ v0 v5 v6 n x19 x20)
def f_X7_mixLabels_l5 (K : Nat → Nat × Nat) (μ : Mm) (v0 : Nat) : Nat → Int64 → Int32 → Option (Int64)
  | 0, _, _ => none
  | n + 1, v3, v5 => bd (rf K μ v0 3 4) fun b1 => if (μ.1 b1 4) ≤ v5 then (some v3) else (bd (rf K μ v0 3 4) fun b3 => bd (rf K μ b3 3 10) fun b4 => gd (inb v5 (K b4).2) <| bd (rf K μ b4 (ix v5) 3) fun b6 => bd (f_X7_mixLabels_l32 K μ v0 v5 b6 FU v3 0) fun q13 => lt1 q13 fun x14 => bd (f_X7_mixLabels_l61 K μ v0 v5 b6 FU x14 0) fun q21 => lt1 q21 fun x22 => lt1 (α := Int32) (v5 + 1) fun x23 => f_X7_mixLabels_l5 K μ v0 n x22 x23)
def f_X7_mixLabels (K : Nat → Nat × Nat) (μ : Mm) (a0 : Nat) (a1 : Int64) : Option (Int64) :=
  bd (f_X7_mixLabels_l5 K μ a0 FU a1 0) fun q24 => lt1 q24 fun x25 => some x25
set_option maxRecDepth 100000 in
set_option maxHeartbeats 4000000 in
theorem gl_X7_mixLabels_32 {l : Launch} {Z : ZZ} {X : XX} (v0 : Nat) (v5 : Int32) (v6 : Nat) (k0 : (zk Z v0).1 = 5) (k6 : (zk Z v6).1 = 3) (μ : Mm) (C : Cx l Z false X cX7_mixLabels RX7 8 (some .long)) (E : xR X = rmm 3 0 0) : ∀ (n : Nat) (v3 : Int64) (v7 : Int32) (y : Int64), f_X7_mixLabels_l32 (zk Z) μ v0 v5 v6 n v3 v7 = some y → G Z X 8 0 0 58 [(0, .ref (za Z v0)), (3, .long y), (5, .int v5), (6, .ref (za Z v6))] [] (μ) → G Z X 8 0 0 32 [(0, .ref (za Z v0)), (3, .long v3), (5, .int v5), (6, .ref (za Z v6)), (7, .int v7)] [] μ := by
  intro n
  induction n with
  | zero => intro v3 v7 y h he; unfold f_X7_mixLabels_l32 at h; cases h
  | succ n ih =>
    intro v3 v7 y h he
    unfold f_X7_mixLabels_l32 at h
    refine g_iload C (i := 7) 4 rfl (dk kX7_mixLabels 17 rfl) ?_
    refine g_bipush C (v := 6) (by decide) (dk kX7_mixLabels 18 rfl) ?_
    refine g_icmp_ge C (tgt := 58) (dk kX7_mixLabels 19 rfl) (by decide) (fun c7 => ?_) (fun c7 => ?_)
    · replace h := ite_t h c7
      cases h
      exact g_sub [0, 1, 2, 3] rfl he
    · replace h := ite_f h c7
      refine g_lload_n C (i := 3) 1 rfl rfl (dk kX7_mixLabels 20 rfl) ?_
      refine g_aload C (i := 6) 3 rfl (dk kX7_mixLabels 21 rfl) ?_
      refine g_iload C (i := 7) 4 rfl (dk kX7_mixLabels 22 rfl) ?_
      obtain ⟨x9, eq8, h⟩ := bd_inv h
      refine g_callV C E (rest := [.long v3]) 1 (ct_X4_value k6 eq8) wd_3_239 mm_X4_value ⟨rfl, by decide, by decide, by decide⟩ rfl (by decide) k6 (by decide) rfl rfl (Nat.le_of_ble_eq_true rfl) (by decide) (dk kX7_mixLabels 23 rfl) ?_
      refine g_i2l C (dk kX7_mixLabels 24 rfl) ?_
      obtain ⟨x11, eq10, h⟩ := bd_inv h
      refine g_callS C E (rest := []) 2 (ct_X7_mix  eq10) wd_3_95 mm_X7_mix ⟨by decide, by decide, by decide⟩ rfl (by decide) rfl (Nat.le_of_ble_eq_true rfl) (by decide) (dk kX7_mixLabels 25 rfl) ?_
      refine g_lstore_n C (i := 3) (lv' := [(3, .long x11), (0, .ref (za Z v0)), (5, .int v5), (6, .ref (za Z v6)), (7, .int v7)]) (dk kX7_mixLabels 26 rfl) rfl (by decide) rfl ?_
      obtain ⟨x12, ex12, h⟩ := lt_inv h
      refine g_iinc C (i := 7) (v := x12) (lv' := [(7, .int x12), (3, .long x11), (0, .ref (za Z v0)), (5, .int v5), (6, .ref (za Z v6))]) 4 (dk kX7_mixLabels 27 rfl) rfl (by rw [ex12]; rfl) (by decide) rfl ?_
      refine g_goto C (tgt := 32) (dk kX7_mixLabels 28 rfl) (by decide) ?_
      exact g_sub [2, 1, 3, 4, 0] rfl (ih x11 x12 y h he)
set_option maxRecDepth 100000 in
set_option maxHeartbeats 4000000 in
theorem gl_X7_mixLabels_61 {l : Launch} {Z : ZZ} {X : XX} (v0 : Nat) (v5 : Int32) (v6 : Nat) (k0 : (zk Z v0).1 = 5) (k6 : (zk Z v6).1 = 3) (μ : Mm) (C : Cx l Z false X cX7_mixLabels RX7 8 (some .long)) (E : xR X = rmm 3 0 0) : ∀ (n : Nat) (v3 : Int64) (v7 : Int32) (y : Int64), f_X7_mixLabels_l61 (zk Z) μ v0 v5 v6 n v3 v7 = some y → G Z X 8 0 0 88 [(0, .ref (za Z v0)), (3, .long y), (5, .int v5)] [] (μ) → G Z X 8 0 0 61 [(0, .ref (za Z v0)), (3, .long v3), (5, .int v5), (6, .ref (za Z v6)), (7, .int v7)] [] μ := by
  intro n
  induction n with
  | zero => intro v3 v7 y h he; unfold f_X7_mixLabels_l61 at h; cases h
  | succ n ih =>
    intro v3 v7 y h he
    unfold f_X7_mixLabels_l61 at h
    refine g_iload C (i := 7) 4 rfl (dk kX7_mixLabels 31 rfl) ?_
    refine g_bipush C (v := 6) (by decide) (dk kX7_mixLabels 32 rfl) ?_
    refine g_icmp_ge C (tgt := 88) (dk kX7_mixLabels 33 rfl) (by decide) (fun c15 => ?_) (fun c15 => ?_)
    · replace h := ite_t h c15
      cases h
      exact g_sub [0, 1, 2] rfl he
    · replace h := ite_f h c15
      refine g_lload_n C (i := 3) 1 rfl rfl (dk kX7_mixLabels 34 rfl) ?_
      refine g_aload C (i := 6) 3 rfl (dk kX7_mixLabels 35 rfl) ?_
      obtain ⟨b16, eb16, h⟩ := bd_inv h
      obtain ⟨rb16, kb16⟩ := rf_inv eb16
      refine gRN_3_4 C k6 (nf_18 C) rb16 (dk kX7_mixLabels 36 rfl) ?_
      refine g_iload C (i := 7) 4 rfl (dk kX7_mixLabels 37 rfl) ?_
      obtain ⟨c17, h⟩ := gd_inv h
      refine g_iald C kb16 c17 (dk kX7_mixLabels 38 rfl) ?_
      refine g_i2l C (dk kX7_mixLabels 39 rfl) ?_
      obtain ⟨x19, eq18, h⟩ := bd_inv h
      refine g_callS C E (rest := []) 2 (ct_X7_mix  eq18) wd_3_95 mm_X7_mix ⟨by decide, by decide, by decide⟩ rfl (by decide) rfl (Nat.le_of_ble_eq_true rfl) (by decide) (dk kX7_mixLabels 40 rfl) ?_
      refine g_lstore_n C (i := 3) (lv' := [(3, .long x19), (0, .ref (za Z v0)), (5, .int v5), (6, .ref (za Z v6)), (7, .int v7)]) (dk kX7_mixLabels 41 rfl) rfl (by decide) rfl ?_
      obtain ⟨x20, ex20, h⟩ := lt_inv h
      refine g_iinc C (i := 7) (v := x20) (lv' := [(7, .int x20), (3, .long x19), (0, .ref (za Z v0)), (5, .int v5), (6, .ref (za Z v6))]) 4 (dk kX7_mixLabels 42 rfl) rfl (by rw [ex20]; rfl) (by decide) rfl ?_
      refine g_goto C (tgt := 61) (dk kX7_mixLabels 43 rfl) (by decide) ?_
      exact g_sub [2, 1, 3, 4, 0] rfl (ih x19 x20 y h he)
set_option maxRecDepth 100000 in
set_option maxHeartbeats 4000000 in
theorem gl_X7_mixLabels_5 {l : Launch} {Z : ZZ} {X : XX} (v0 : Nat) (k0 : (zk Z v0).1 = 5) (μ : Mm) (C : Cx l Z false X cX7_mixLabels RX7 8 (some .long)) (E : xR X = rmm 3 0 0) : ∀ (n : Nat) (v3 : Int64) (v5 : Int32) (y : Int64), f_X7_mixLabels_l5 (zk Z) μ v0 n v3 v5 = some y → G Z X 8 0 0 94 [(3, .long y)] [] (μ) → G Z X 8 0 0 5 [(0, .ref (za Z v0)), (3, .long v3), (5, .int v5)] [] μ := by
  intro n
  induction n with
  | zero => intro v3 v5 y h he; unfold f_X7_mixLabels_l5 at h; cases h
  | succ n ih =>
    intro v3 v5 y h he
    unfold f_X7_mixLabels_l5 at h
    refine g_iload C (i := 5) 2 rfl (dk kX7_mixLabels 4 rfl) ?_
    refine g_aload_n C (i := 0) 0 rfl rfl (dk kX7_mixLabels 5 rfl) ?_
    obtain ⟨b1, eb1, h⟩ := bd_inv h
    obtain ⟨rb1, kb1⟩ := rf_inv eb1
    refine gR_5_3 C k0 (C.w wd_1_203) rb1 (dk kX7_mixLabels 6 rfl) ?_
    refine gIN_4_4 C kb1 (nf_27 C) (dk kX7_mixLabels 7 rfl) ?_
    refine g_icmp_ge C (tgt := 94) (dk kX7_mixLabels 8 rfl) (by decide) (fun c2 => ?_) (fun c2 => ?_)
    · replace h := ite_t h c2
      cases h
      exact g_sub [1] rfl he
    · replace h := ite_f h c2
      refine g_aload_n C (i := 0) 0 rfl rfl (dk kX7_mixLabels 9 rfl) ?_
      obtain ⟨b3, eb3, h⟩ := bd_inv h
      obtain ⟨rb3, kb3⟩ := rf_inv eb3
      refine gR_5_3 C k0 (C.w wd_1_203) rb3 (dk kX7_mixLabels 10 rfl) ?_
      obtain ⟨b4, eb4, h⟩ := bd_inv h
      obtain ⟨rb4, kb4⟩ := rf_inv eb4
      refine gRN_4_3 C kb3 (nf_26 C) rb4 (dk kX7_mixLabels 11 rfl) ?_
      refine g_iload C (i := 5) 2 rfl (dk kX7_mixLabels 12 rfl) ?_
      obtain ⟨c5, h⟩ := gd_inv h
      obtain ⟨b6, eb6, h⟩ := bd_inv h
      obtain ⟨rb6, kb6⟩ := rf_inv eb6
      refine gA_10 C kb4 c5 rb6 (dk kX7_mixLabels 13 rfl) ?_
      refine g_astore C (i := 6) (lv' := [(6, .ref (za Z b6)), (0, .ref (za Z v0)), (3, .long v3), (5, .int v5)]) (dk kX7_mixLabels 14 rfl) (by decide) rfl ?_
      refine g_iconst C (v := 0) (by decide) (dk kX7_mixLabels 15 rfl) ?_
      refine g_istore C (i := 7) (lv' := [(7, .int 0), (6, .ref (za Z b6)), (0, .ref (za Z v0)), (3, .long v3), (5, .int v5)]) (dk kX7_mixLabels 16 rfl) (by decide) rfl ?_
      obtain ⟨q13, eq13, h⟩ := bd_inv h
      refine g_sub [2, 3, 4, 1, 0] (lv' := [(0, .ref (za Z v0)), (3, .long v3), (5, .int v5), (6, .ref (za Z b6)), (7, .int 0)]) rfl ?_
      refine gl_X7_mixLabels_32 v0 v5 b6 k0 kb6 μ C E FU v3 0 _ eq13 ?_
      obtain ⟨x14, ex14, h⟩ := lt_inv h
      rw [← ex14]
      refine g_iconst C (v := 0) (by decide) (dk kX7_mixLabels 29 rfl) ?_
      refine g_istore C (i := 7) (lv' := [(7, .int 0), (0, .ref (za Z v0)), (3, .long x14), (5, .int v5), (6, .ref (za Z b6))]) (dk kX7_mixLabels 30 rfl) (by decide) rfl ?_
      obtain ⟨q21, eq21, h⟩ := bd_inv h
      refine g_sub [1, 2, 3, 4, 0] (lv' := [(0, .ref (za Z v0)), (3, .long x14), (5, .int v5), (6, .ref (za Z b6)), (7, .int 0)]) rfl ?_
      refine gl_X7_mixLabels_61 v0 v5 b6 k0 kb6 μ C E FU x14 0 _ eq21 ?_
      obtain ⟨x22, ex22, h⟩ := lt_inv h
      rw [← ex22]
      obtain ⟨x23, ex23, h⟩ := lt_inv h
      refine g_iinc C (i := 5) (v := x23) (lv' := [(5, .int x23), (0, .ref (za Z v0)), (3, .long x22)]) 2 (dk kX7_mixLabels 44 rfl) rfl (by rw [ex23]; rfl) (by decide) rfl ?_
      refine g_goto C (tgt := 5) (dk kX7_mixLabels 45 rfl) (by decide) ?_
      exact g_sub [1, 2, 0] rfl (ih x22 x23 y h he)
set_option maxRecDepth 100000 in
set_option maxHeartbeats 4000000 in
theorem t_X7_mixLabels {l : Launch} {Z : ZZ} {X : XX} (μ : Mm) (a0 : Nat) (a1 : Int64) (r : Int64) (k0 : (zk Z a0).1 = 5) (h : f_X7_mixLabels (zk Z) μ a0 a1 = some r) (C : Cx l Z false X cX7_mixLabels RX7 8 (some .long)) (E : Ex Z X 3 0 0 (some (.long r)) Z μ) : G Z X 8 0 0 0 [(0, .ref (za Z a0)), (1, .long a1)] [] μ := by
  unfold f_X7_mixLabels at h
  refine g_lload_n C (i := 1) 1 rfl rfl (dk kX7_mixLabels 0 rfl) ?_
  refine g_lstore_n C (i := 3) (lv' := [(3, .long a1), (0, .ref (za Z a0)), (1, .long a1)]) (dk kX7_mixLabels 1 rfl) rfl (by decide) rfl ?_
  refine g_iconst C (v := 0) (by decide) (dk kX7_mixLabels 2 rfl) ?_
  refine g_istore C (i := 5) (lv' := [(5, .int 0), (3, .long a1), (0, .ref (za Z a0)), (1, .long a1)]) (dk kX7_mixLabels 3 rfl) (by decide) rfl ?_
  obtain ⟨q24, eq24, h⟩ := bd_inv h
  refine g_sub [2, 1, 0] (lv' := [(0, .ref (za Z a0)), (3, .long a1), (5, .int 0)]) rfl ?_
  refine gl_X7_mixLabels_5 a0 k0 μ C E.2 FU a1 0 _ eq24 ?_
  obtain ⟨x25, ex25, h⟩ := lt_inv h
  rw [← ex25]
  refine g_lload_n C (i := 3) 0 rfl rfl (dk kX7_mixLabels 46 rfl) ?_
  have h9 := Option.some.inj h
  subst h9
  exact g_lret C E (Nat.le_refl 0) (Nat.le_refl 0) (dk kX7_mixLabels 47 rfl)
theorem ct_X7_mixLabels {l : Launch} {Z : ZZ} {μ : Mm} {a0 : Nat} {a1 : Int64} {r : Int64} (k0 : (zk Z a0).1 = 5) (h : f_X7_mixLabels (zk Z) μ a0 a1 = some r) : CtM l Z false yX7_mixLabels cX7_mixLabels 8 (some .long) 3 0 0 [.ref (za Z a0), .long a1] μ (some (.long r)) Z μ := ct_of rfl rfl (Nat.le_of_ble_eq_true rfl) (fun X C E => t_X7_mixLabels μ a0 a1 r k0 h C E)

def qX7_mixCustomers : List (Nat × Instr × Nat) := [(0, .lload_n 1, 1), (1, .lstore_n 3, 1), (2, .iconst 0, 1), (3, .istore 5, 2), (5, .iload 5, 2), (7, .aload_n 0, 1), (8, .getfield 28, 3), (11, .getfield 244, 3), (14, .if_icmp .ge 84, 3), (17, .iconst 0, 1), (18, .istore 6, 2), (20, .iload 6, 2), (22, .bipush 6, 2), (24, .if_icmp .ge 30, 3), (27, .lload_n 3, 1), (28, .aload_n 0, 1), (29, .getfield 28, 3), (32, .getfield 134, 3), (35, .iload 5, 2), (37, .aaload, 1), (38, .iload 6, 2), (40, .invokevirtual 138, 3), (43, .i2l, 1), (44, .invokestatic 218, 3), (47, .lstore_n 3, 1), (48, .iinc 6 1, 3), (51, .goto (-31), 3), (54, .iconst 0, 1), (55, .istore 6, 2), (57, .iload 6, 2), (59, .aload_n 0, 1), (60, .getfield 28, 3), (63, .getfield 241, 3), (66, .if_icmp .ge 26, 3), (69, .lload_n 3, 1), (70, .aload_n 0, 1), (71, .getfield 28, 3), (74, .iload 5, 2), (76, .iload 6, 2), (78, .invokevirtual 163, 3), (81, .i2l, 1), (82, .invokestatic 218, 3), (85, .lstore_n 3, 1), (86, .iinc 6 1, 3), (89, .goto (-32), 3), (92, .iinc 5 1, 3), (95, .goto (-90), 3), (98, .lload_n 3, 1), (99, .lreturn, 1)]
theorem kX7_mixCustomers : ∀ q ∈ qX7_mixCustomers, decode cX7_mixCustomers q.1 = .ok q.2 := by decide +kernel
def f_X7_mixCustomers_l20 (K : Nat → Nat × Nat) (μ : Mm) (v0 : Nat) (v5 : Int32) : Nat → Int64 → Int32 → Option (Int64)
  | 0, _, _ => none
  | n + 1, v3, v6 => if 6 ≤ v6 then (some v3) else (bd (rf K μ v0 3 4) fun b4 => bd (rf K μ b4 5 9) fun b5 => gd (inb v5 (K b5).2) <| bd (rf K μ b5 (ix v5) 1) fun b7 => bd (f_X2_value K μ b7 v6) fun x9 => bd (f_X7_mix v3 (Int32.toInt64 x9)) fun x11 => lt1 (α := Int32) (v6 + 1) fun x12 => f_X7_mixCustomers_l20 K μ v0 v5 n x11 x12)
def f_X7_mixCustomers_l57 (K : Nat → Nat × Nat) (v0 : Nat) (v5 : Int32) : Nat → Mm → Int64 → Int32 → Option (Int64 × Mm)
  | 0, _, _, _ => none
  | n + 1, μ, v3, v6 => bd (rf K μ v0 3 4) fun b15 => if (μ.1 b15 4) ≤ v6 then (some (v3, μ)) else (bd (rf K μ v0 3 4) fun b17 => bd (f_X5_bestPlace K μ b17 v5 v6) fun q18 => lt1 q18.1 fun x20 => lt1 q18.2 fun μ19 => bd (f_X7_mix v3 (Int32.toInt64 x20)) fun x22 => lt1 (α := Int32) (v6 + 1) fun x23 => f_X7_mixCustomers_l57 K v0 v5 n μ19 x22 x23)
def f_X7_mixCustomers_l5 (K : Nat → Nat × Nat) (v0 : Nat) : Nat → Mm → Int64 → Int32 → Option (Int64 × Mm)
  | 0, _, _, _ => none
  | n + 1, μ, v3, v5 => bd (rf K μ v0 3 4) fun b1 => if (μ.1 b1 6) ≤ v5 then (some (v3, μ)) else (bd (f_X7_mixCustomers_l20 K μ v0 v5 FU v3 0) fun q13 => lt1 q13 fun x14 => bd (f_X7_mixCustomers_l57 K v0 v5 FU μ x14 0) fun q24 => lt1 q24.1 fun x25 => lt1 q24.2 fun μ26 => lt1 (α := Int32) (v5 + 1) fun x27 => f_X7_mixCustomers_l5 K v0 n μ26 x25 x27)
def f_X7_mixCustomers (K : Nat → Nat × Nat) (μ : Mm) (a0 : Nat) (a1 : Int64) : Option (Int64 × Mm) :=
  bd (f_X7_mixCustomers_l5 K a0 FU μ a1 0) fun q28 => lt1 q28.1 fun x29 => lt1 q28.2 fun μ30 => some (x29, μ30)
set_option maxRecDepth 100000 in
set_option maxHeartbeats 4000000 in
theorem gl_X7_mixCustomers_20 {l : Launch} {Z : ZZ} {X : XX} (v0 : Nat) (v5 : Int32) (k0 : (zk Z v0).1 = 5) (μ : Mm) (C : Cx l Z false X cX7_mixCustomers RX7 7 (some .long)) (E : xR X = rmm 4 0 0) : ∀ (n : Nat) (v3 : Int64) (v6 : Int32) (y : Int64), f_X7_mixCustomers_l20 (zk Z) μ v0 v5 n v3 v6 = some y → G Z X 7 0 0 54 [(0, .ref (za Z v0)), (3, .long y), (5, .int v5)] [] (μ) → G Z X 7 0 0 20 [(0, .ref (za Z v0)), (3, .long v3), (5, .int v5), (6, .int v6)] [] μ := by
  intro n
  induction n with
  | zero => intro v3 v6 y h he; unfold f_X7_mixCustomers_l20 at h; cases h
  | succ n ih =>
    intro v3 v6 y h he
    unfold f_X7_mixCustomers_l20 at h
    refine g_iload C (i := 6) 3 rfl (dk kX7_mixCustomers 11 rfl) ?_
    refine g_bipush C (v := 6) (by decide) (dk kX7_mixCustomers 12 rfl) ?_
    refine g_icmp_ge C (tgt := 54) (dk kX7_mixCustomers 13 rfl) (by decide) (fun c3 => ?_) (fun c3 => ?_)
    · replace h := ite_t h c3
      cases h
      exact g_sub [0, 1, 2] rfl he
    · replace h := ite_f h c3
      refine g_lload_n C (i := 3) 1 rfl rfl (dk kX7_mixCustomers 14 rfl) ?_
      refine g_aload_n C (i := 0) 0 rfl rfl (dk kX7_mixCustomers 15 rfl) ?_
      obtain ⟨b4, eb4, h⟩ := bd_inv h
      obtain ⟨rb4, kb4⟩ := rf_inv eb4
      refine gR_5_3 C k0 (C.w wd_1_203) rb4 (dk kX7_mixCustomers 16 rfl) ?_
      obtain ⟨b5, eb5, h⟩ := bd_inv h
      obtain ⟨rb5, kb5⟩ := rf_inv eb5
      refine gRN_4_5 C kb4 (nf_28 C) rb5 (dk kX7_mixCustomers 17 rfl) ?_
      refine g_iload C (i := 5) 2 rfl (dk kX7_mixCustomers 18 rfl) ?_
      obtain ⟨c6, h⟩ := gd_inv h
      obtain ⟨b7, eb7, h⟩ := bd_inv h
      obtain ⟨rb7, kb7⟩ := rf_inv eb7
      refine gA_9 C kb5 c6 rb7 (dk kX7_mixCustomers 19 rfl) ?_
      refine g_iload C (i := 6) 3 rfl (dk kX7_mixCustomers 20 rfl) ?_
      obtain ⟨x9, eq8, h⟩ := bd_inv h
      refine g_callV C E (rest := [.long v3]) 1 (ct_X2_value kb7 eq8) wd_4_13 mm_X2_value ⟨rfl, by decide, by decide, by decide⟩ rfl (by decide) kb7 (by decide) rfl rfl (Nat.le_of_ble_eq_true rfl) (by decide) (dk kX7_mixCustomers 21 rfl) ?_
      refine g_i2l C (dk kX7_mixCustomers 22 rfl) ?_
      obtain ⟨x11, eq10, h⟩ := bd_inv h
      refine g_callS C E (rest := []) 2 (ct_X7_mix  eq10) wd_3_95 mm_X7_mix ⟨by decide, by decide, by decide⟩ rfl (by decide) rfl (Nat.le_of_ble_eq_true rfl) (by decide) (dk kX7_mixCustomers 23 rfl) ?_
      refine g_lstore_n C (i := 3) (lv' := [(3, .long x11), (0, .ref (za Z v0)), (5, .int v5), (6, .int v6)]) (dk kX7_mixCustomers 24 rfl) rfl (by decide) rfl ?_
      obtain ⟨x12, ex12, h⟩ := lt_inv h
      refine g_iinc C (i := 6) (v := x12) (lv' := [(6, .int x12), (3, .long x11), (0, .ref (za Z v0)), (5, .int v5)]) 3 (dk kX7_mixCustomers 25 rfl) rfl (by rw [ex12]; rfl) (by decide) rfl ?_
      refine g_goto C (tgt := 20) (dk kX7_mixCustomers 26 rfl) (by decide) ?_
      exact g_sub [2, 1, 3, 0] rfl (ih x11 x12 y h he)
set_option maxRecDepth 100000 in
set_option maxHeartbeats 4000000 in
theorem gl_X7_mixCustomers_57 {l : Launch} {Z : ZZ} {X : XX} (v0 : Nat) (v5 : Int32) (k0 : (zk Z v0).1 = 5) (C : Cx l Z false X cX7_mixCustomers RX7 7 (some .long)) (E : xR X = rmm 4 0 0) : ∀ (n : Nat) (μ : Mm) (v3 : Int64) (v6 : Int32) (y : Int64 × Mm), f_X7_mixCustomers_l57 (zk Z) v0 v5 n μ v3 v6 = some y → G Z X 7 0 0 92 [(0, .ref (za Z v0)), (3, .long y.1), (5, .int v5)] [] y.2 → G Z X 7 0 0 57 [(0, .ref (za Z v0)), (3, .long v3), (5, .int v5), (6, .int v6)] [] μ := by
  intro n
  induction n with
  | zero => intro μ v3 v6 y h he; unfold f_X7_mixCustomers_l57 at h; cases h
  | succ n ih =>
    intro μ v3 v6 y h he
    unfold f_X7_mixCustomers_l57 at h
    refine g_iload C (i := 6) 3 rfl (dk kX7_mixCustomers 29 rfl) ?_
    refine g_aload_n C (i := 0) 0 rfl rfl (dk kX7_mixCustomers 30 rfl) ?_
    obtain ⟨b15, eb15, h⟩ := bd_inv h
    obtain ⟨rb15, kb15⟩ := rf_inv eb15
    refine gR_5_3 C k0 (C.w wd_1_203) rb15 (dk kX7_mixCustomers 31 rfl) ?_
    refine gIN_4_4 C kb15 (nf_27 C) (dk kX7_mixCustomers 32 rfl) ?_
    refine g_icmp_ge C (tgt := 92) (dk kX7_mixCustomers 33 rfl) (by decide) (fun c16 => ?_) (fun c16 => ?_)
    · replace h := ite_t h c16
      cases h
      exact g_sub [0, 1, 2] rfl he
    · replace h := ite_f h c16
      refine g_lload_n C (i := 3) 1 rfl rfl (dk kX7_mixCustomers 34 rfl) ?_
      refine g_aload_n C (i := 0) 0 rfl rfl (dk kX7_mixCustomers 35 rfl) ?_
      obtain ⟨b17, eb17, h⟩ := bd_inv h
      obtain ⟨rb17, kb17⟩ := rf_inv eb17
      refine gR_5_3 C k0 (C.w wd_1_203) rb17 (dk kX7_mixCustomers 36 rfl) ?_
      refine g_iload C (i := 5) 2 rfl (dk kX7_mixCustomers 37 rfl) ?_
      refine g_iload C (i := 6) 3 rfl (dk kX7_mixCustomers 38 rfl) ?_
      obtain ⟨q18, eq18, h⟩ := bd_inv h
      obtain ⟨x20, ex20, h⟩ := lt_inv h
      obtain ⟨μ19, eμ19, h⟩ := lt_inv h
      rw [show q18 = (x20, μ19) from by rw [ex20, eμ19]] at eq18
      refine g_callV C E (rest := [.long v3]) 2 (ct_X5_bestPlace kb17 eq18) wd_4_17 mm_X5_bestPlace ⟨rfl, by decide, by decide, by decide⟩ rfl (by decide) kb17 (by decide) rfl rfl (Nat.le_of_ble_eq_true rfl) (by decide) (dk kX7_mixCustomers 39 rfl) ?_
      refine g_i2l C (dk kX7_mixCustomers 40 rfl) ?_
      obtain ⟨x22, eq21, h⟩ := bd_inv h
      refine g_callS C E (rest := []) 2 (ct_X7_mix  eq21) wd_3_95 mm_X7_mix ⟨by decide, by decide, by decide⟩ rfl (by decide) rfl (Nat.le_of_ble_eq_true rfl) (by decide) (dk kX7_mixCustomers 41 rfl) ?_
      refine g_lstore_n C (i := 3) (lv' := [(3, .long x22), (0, .ref (za Z v0)), (5, .int v5), (6, .int v6)]) (dk kX7_mixCustomers 42 rfl) rfl (by decide) rfl ?_
      obtain ⟨x23, ex23, h⟩ := lt_inv h
      refine g_iinc C (i := 6) (v := x23) (lv' := [(6, .int x23), (3, .long x22), (0, .ref (za Z v0)), (5, .int v5)]) 3 (dk kX7_mixCustomers 43 rfl) rfl (by rw [ex23]; rfl) (by decide) rfl ?_
      refine g_goto C (tgt := 57) (dk kX7_mixCustomers 44 rfl) (by decide) ?_
      exact g_sub [2, 1, 3, 0] rfl (ih μ19 x22 x23 y h he)
set_option maxRecDepth 100000 in
set_option maxHeartbeats 4000000 in
theorem gl_X7_mixCustomers_5 {l : Launch} {Z : ZZ} {X : XX} (v0 : Nat) (k0 : (zk Z v0).1 = 5) (C : Cx l Z false X cX7_mixCustomers RX7 7 (some .long)) (E : xR X = rmm 4 0 0) : ∀ (n : Nat) (μ : Mm) (v3 : Int64) (v5 : Int32) (y : Int64 × Mm), f_X7_mixCustomers_l5 (zk Z) v0 n μ v3 v5 = some y → G Z X 7 0 0 98 [(3, .long y.1)] [] y.2 → G Z X 7 0 0 5 [(0, .ref (za Z v0)), (3, .long v3), (5, .int v5)] [] μ := by
  intro n
  induction n with
  | zero => intro μ v3 v5 y h he; unfold f_X7_mixCustomers_l5 at h; cases h
  | succ n ih =>
    intro μ v3 v5 y h he
    unfold f_X7_mixCustomers_l5 at h
    refine g_iload C (i := 5) 2 rfl (dk kX7_mixCustomers 4 rfl) ?_
    refine g_aload_n C (i := 0) 0 rfl rfl (dk kX7_mixCustomers 5 rfl) ?_
    obtain ⟨b1, eb1, h⟩ := bd_inv h
    obtain ⟨rb1, kb1⟩ := rf_inv eb1
    refine gR_5_3 C k0 (C.w wd_1_203) rb1 (dk kX7_mixCustomers 6 rfl) ?_
    refine gIN_4_6 C kb1 (nf_29 C) (dk kX7_mixCustomers 7 rfl) ?_
    refine g_icmp_ge C (tgt := 98) (dk kX7_mixCustomers 8 rfl) (by decide) (fun c2 => ?_) (fun c2 => ?_)
    · replace h := ite_t h c2
      cases h
      exact g_sub [1] rfl he
    · replace h := ite_f h c2
      refine g_iconst C (v := 0) (by decide) (dk kX7_mixCustomers 9 rfl) ?_
      refine g_istore C (i := 6) (lv' := [(6, .int 0), (0, .ref (za Z v0)), (3, .long v3), (5, .int v5)]) (dk kX7_mixCustomers 10 rfl) (by decide) rfl ?_
      obtain ⟨q13, eq13, h⟩ := bd_inv h
      refine g_sub [1, 2, 3, 0] (lv' := [(0, .ref (za Z v0)), (3, .long v3), (5, .int v5), (6, .int 0)]) rfl ?_
      refine gl_X7_mixCustomers_20 v0 v5 k0 μ C E FU v3 0 _ eq13 ?_
      obtain ⟨x14, ex14, h⟩ := lt_inv h
      rw [← ex14]
      refine g_iconst C (v := 0) (by decide) (dk kX7_mixCustomers 27 rfl) ?_
      refine g_istore C (i := 6) (lv' := [(6, .int 0), (0, .ref (za Z v0)), (3, .long x14), (5, .int v5)]) (dk kX7_mixCustomers 28 rfl) (by decide) rfl ?_
      obtain ⟨q24, eq24, h⟩ := bd_inv h
      refine g_sub [1, 2, 3, 0] (lv' := [(0, .ref (za Z v0)), (3, .long x14), (5, .int v5), (6, .int 0)]) rfl ?_
      refine gl_X7_mixCustomers_57 v0 v5 k0 C E FU μ x14 0 _ eq24 ?_
      obtain ⟨x25, ex25, h⟩ := lt_inv h
      obtain ⟨μ26, eμ26, h⟩ := lt_inv h
      rw [← ex25, ← eμ26]
      obtain ⟨x27, ex27, h⟩ := lt_inv h
      refine g_iinc C (i := 5) (v := x27) (lv' := [(5, .int x27), (0, .ref (za Z v0)), (3, .long x25)]) 2 (dk kX7_mixCustomers 45 rfl) rfl (by rw [ex27]; rfl) (by decide) rfl ?_
      refine g_goto C (tgt := 5) (dk kX7_mixCustomers 46 rfl) (by decide) ?_
      exact g_sub [1, 2, 0] rfl (ih μ26 x25 x27 y h he)
set_option maxRecDepth 100000 in
set_option maxHeartbeats 4000000 in
theorem t_X7_mixCustomers {l : Launch} {Z : ZZ} {X : XX} (μ : Mm) (a0 : Nat) (a1 : Int64) (r : Int64) (μ' : Mm) (k0 : (zk Z a0).1 = 5) (h : f_X7_mixCustomers (zk Z) μ a0 a1 = some (r, μ')) (C : Cx l Z false X cX7_mixCustomers RX7 7 (some .long)) (E : Ex Z X 4 0 0 (some (.long r)) Z μ') : G Z X 7 0 0 0 [(0, .ref (za Z a0)), (1, .long a1)] [] μ := by
  unfold f_X7_mixCustomers at h
  refine g_lload_n C (i := 1) 1 rfl rfl (dk kX7_mixCustomers 0 rfl) ?_
  refine g_lstore_n C (i := 3) (lv' := [(3, .long a1), (0, .ref (za Z a0)), (1, .long a1)]) (dk kX7_mixCustomers 1 rfl) rfl (by decide) rfl ?_
  refine g_iconst C (v := 0) (by decide) (dk kX7_mixCustomers 2 rfl) ?_
  refine g_istore C (i := 5) (lv' := [(5, .int 0), (3, .long a1), (0, .ref (za Z a0)), (1, .long a1)]) (dk kX7_mixCustomers 3 rfl) (by decide) rfl ?_
  obtain ⟨q28, eq28, h⟩ := bd_inv h
  refine g_sub [2, 1, 0] (lv' := [(0, .ref (za Z a0)), (3, .long a1), (5, .int 0)]) rfl ?_
  refine gl_X7_mixCustomers_5 a0 k0 C E.2 FU μ a1 0 _ eq28 ?_
  obtain ⟨x29, ex29, h⟩ := lt_inv h
  obtain ⟨μ30, eμ30, h⟩ := lt_inv h
  rw [← ex29, ← eμ30]
  refine g_lload_n C (i := 3) 0 rfl rfl (dk kX7_mixCustomers 47 rfl) ?_
  obtain ⟨h8, h9⟩ := Prod.mk.inj (Option.some.inj h)
  subst h8
  subst h9
  exact g_lret C E (Nat.le_refl 0) (Nat.le_refl 0) (dk kX7_mixCustomers 48 rfl)
theorem ct_X7_mixCustomers {l : Launch} {Z : ZZ} {μ : Mm} {a0 : Nat} {a1 : Int64} {r : Int64} {μ' : Mm} (k0 : (zk Z a0).1 = 5) (h : f_X7_mixCustomers (zk Z) μ a0 a1 = some (r, μ')) : CtM l Z false yX7_mixCustomers cX7_mixCustomers 7 (some .long) 4 0 0 [.ref (za Z a0), .long a1] μ (some (.long r)) Z μ' := ct_of rfl rfl (Nat.le_of_ble_eq_true rfl) (fun X C E => t_X7_mixCustomers μ a0 a1 r μ' k0 h C E)

def qX7_mostWorn : List (Nat × Instr × Nat) := [(0, .aload_n 0, 1), (1, .getfield 28, 3), (4, .getfield 169, 3), (7, .invokevirtual 173, 3), (10, .ireturn, 1)]
theorem kX7_mostWorn : ∀ q ∈ qX7_mostWorn, decode cX7_mostWorn q.1 = .ok q.2 := by decide +kernel
def f_X7_mostWorn (K : Nat → Nat × Nat) (μ : Mm) (a0 : Nat) : Option (Int32) :=
  bd (rf K μ a0 3 4) fun b1 => bd (rf K μ b1 0 2) fun b2 => bd (f_X3_mostWornDot K μ b2) fun x4 => some x4
set_option maxRecDepth 100000 in
set_option maxHeartbeats 4000000 in
theorem t_X7_mostWorn {l : Launch} {Z : ZZ} {X : XX} (μ : Mm) (a0 : Nat) (r : Int32) (k0 : (zk Z a0).1 = 5) (h : f_X7_mostWorn (zk Z) μ a0 = some r) (C : Cx l Z false X cX7_mostWorn RX7 1 (some .int)) (E : Ex Z X 1 0 0 (some (.int r)) Z μ) : G Z X 1 0 0 0 [(0, .ref (za Z a0))] [] μ := by
  unfold f_X7_mostWorn at h
  refine g_aload_n C (i := 0) 0 rfl rfl (dk kX7_mostWorn 0 rfl) ?_
  obtain ⟨b1, eb1, h⟩ := bd_inv h
  obtain ⟨rb1, kb1⟩ := rf_inv eb1
  refine gR_5_3 C k0 (C.w wd_1_203) rb1 (dk kX7_mostWorn 1 rfl) ?_
  obtain ⟨b2, eb2, h⟩ := bd_inv h
  obtain ⟨rb2, kb2⟩ := rf_inv eb2
  refine gRN_4_0 C kb1 (nf_25 C) rb2 (dk kX7_mostWorn 2 rfl) ?_
  obtain ⟨x4, eq3, h⟩ := bd_inv h
  refine g_callV C E.2 (rest := []) 0 (ct_X3_mostWornDot kb2 eq3) wd_1_217 mm_X3_mostWornDot ⟨rfl, by decide, by decide, by decide⟩ rfl (by decide) kb2 (by decide) rfl rfl (Nat.le_of_ble_eq_true rfl) (by decide) (dk kX7_mostWorn 3 rfl) ?_
  have h9 := Option.some.inj h
  subst h9
  exact g_iret C E rfl rfl (Nat.le_refl 0) (Nat.le_refl 0) (dk kX7_mostWorn 4 rfl)
theorem ct_X7_mostWorn {l : Launch} {Z : ZZ} {μ : Mm} {a0 : Nat} {r : Int32} (k0 : (zk Z a0).1 = 5) (h : f_X7_mostWorn (zk Z) μ a0 = some r) : CtM l Z false yX7_mostWorn cX7_mostWorn 1 (some .int) 1 0 0 [.ref (za Z a0)] μ (some (.int r)) Z μ := ct_of rfl rfl (Nat.le_of_ble_eq_true rfl) (fun X C E => t_X7_mostWorn μ a0 r k0 h C E)
