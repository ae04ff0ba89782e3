def qX5_allEarned : List (Nat × Instr × Nat) := [(0, .iconst 0, 1), (1, .istore_n 1, 1), (2, .iconst 0, 1), (3, .istore_n 2, 1), (4, .iload_n 2, 1), (5, .aload_n 0, 1), (6, .getfield 62, 3), (9, .if_icmp .ge 31, 3), (12, .iload_n 1, 1), (13, .aload_n 0, 1), (14, .getfield 30, 3), (17, .iload_n 2, 1), (18, .aaload, 1), (19, .getfield 156, 3), (22, .aload_n 0, 1), (23, .getfield 30, 3), (26, .iload_n 2, 1), (27, .aaload, 1), (28, .getfield 163, 3), (31, .isub, 1), (32, .iadd, 1), (33, .istore_n 1, 1), (34, .iinc 2 1, 3), (37, .goto (-33), 3), (40, .iload_n 1, 1), (41, .ireturn, 1)]
theorem kX5_allEarned : ∀ q ∈ qX5_allEarned, decode cX5_allEarned q.1 = .ok q.2 := by decide +kernel
def f_X5_allEarned_l4 (K : Nat → Nat × Nat) (μ : Mm) (v0 : Nat) : Nat → Int32 → Int32 → Option (Int32)
  | 0, _, _ => none
  | n + 1, v1, v2 => if (μ.1 v0 6) ≤ v2 then (some v1) else (bd (rf K μ v0 5 9) fun b2 => gd (inb v2 (K b2).2) <| bd (rf K μ b2 (ix v2) 1) fun b4 => bd (rf K μ v0 5 9) fun b5 => gd (inb v2 (K b5).2) <| bd (rf K μ b5 (ix v2) 1) fun b7 => lt1 (α := Int32) (v1 + ((μ.1 b4 2) - (μ.1 b7 3))) fun x8 => lt1 (α := Int32) (v2 + 1) fun x9 => f_X5_allEarned_l4 K μ v0 n x8 x9)
def f_X5_allEarned (K : Nat → Nat × Nat) (μ : Mm) (a0 : Nat) : Option (Int32) :=
  bd (f_X5_allEarned_l4 K μ a0 FU 0 0) fun q10 => lt1 q10 fun x11 => some x11
set_option maxRecDepth 100000 in
set_option maxHeartbeats 4000000 in
theorem gl_X5_allEarned_4 {l : Launch} {Z : ZZ} {X : XX} (v0 : Nat) (k0 : (zk Z v0).1 = 4) (μ : Mm) (C : Cx l Z false X cX5_allEarned RX5 3 (some .int)) (E : xR X = rmm 0 0 0) : ∀ (n : Nat) (v1 : Int32) (v2 : Int32) (y : Int32), f_X5_allEarned_l4 (zk Z) μ v0 n v1 v2 = some y → G Z X 3 0 0 40 [(1, .int y)] [] (μ) → G Z X 3 0 0 4 [(0, .ref (za Z v0)), (1, .int v1), (2, .int v2)] [] μ := by
  intro n
  induction n with
  | zero => intro v1 v2 y h he; unfold f_X5_allEarned_l4 at h; cases h
  | succ n ih =>
    intro v1 v2 y h he
    unfold f_X5_allEarned_l4 at h
    refine g_iload_n C (i := 2) 2 rfl rfl (dk kX5_allEarned 4 rfl) ?_
    refine g_aload_n C (i := 0) 0 rfl rfl (dk kX5_allEarned 5 rfl) ?_
    refine gI_4_6 C k0 (C.w wd_1_168) (dk kX5_allEarned 6 rfl) ?_
    refine g_icmp_ge C (tgt := 40) (dk kX5_allEarned 7 rfl) (by decide) (fun c1 => ?_) (fun c1 => ?_)
    · replace h := ite_t h c1
      cases h
      exact g_sub [1] rfl he
    · replace h := ite_f h c1
      refine g_iload_n C (i := 1) 1 rfl rfl (dk kX5_allEarned 8 rfl) ?_
      refine g_aload_n C (i := 0) 0 rfl rfl (dk kX5_allEarned 9 rfl) ?_
      obtain ⟨b2, eb2, h⟩ := bd_inv h
      obtain ⟨rb2, kb2⟩ := rf_inv eb2
      refine gR_4_5 C k0 (C.w wd_1_166) rb2 (dk kX5_allEarned 10 rfl) ?_
      refine g_iload_n C (i := 2) 2 rfl rfl (dk kX5_allEarned 11 rfl) ?_
      obtain ⟨c3, h⟩ := gd_inv h
      obtain ⟨b4, eb4, h⟩ := bd_inv h
      obtain ⟨rb4, kb4⟩ := rf_inv eb4
      refine gA_9 C kb2 c3 rb4 (dk kX5_allEarned 12 rfl) ?_
      refine gIN_1_2 C kb4 (nf_18 C) (dk kX5_allEarned 13 rfl) ?_
      refine g_aload_n C (i := 0) 0 rfl rfl (dk kX5_allEarned 14 rfl) ?_
      obtain ⟨b5, eb5, h⟩ := bd_inv h
      obtain ⟨rb5, kb5⟩ := rf_inv eb5
      refine gR_4_5 C k0 (C.w wd_1_166) rb5 (dk kX5_allEarned 15 rfl) ?_
      refine g_iload_n C (i := 2) 2 rfl rfl (dk kX5_allEarned 16 rfl) ?_
      obtain ⟨c6, h⟩ := gd_inv h
      obtain ⟨b7, eb7, h⟩ := bd_inv h
      obtain ⟨rb7, kb7⟩ := rf_inv eb7
      refine gA_9 C kb5 c6 rb7 (dk kX5_allEarned 17 rfl) ?_
      refine gIN_1_3 C kb7 (nf_19 C) (dk kX5_allEarned 18 rfl) ?_
      refine g_isub C (dk kX5_allEarned 19 rfl) ?_
      refine g_iadd C (dk kX5_allEarned 20 rfl) ?_
      obtain ⟨x8, ex8, h⟩ := lt_inv h
      refine g_nmi ex8 ?_
      refine g_istore_n C (i := 1) (lv' := [(1, .int x8), (0, .ref (za Z v0)), (2, .int v2)]) (dk kX5_allEarned 21 rfl) rfl (by decide) rfl ?_
      obtain ⟨x9, ex9, h⟩ := lt_inv h
      refine g_iinc C (i := 2) (v := x9) (lv' := [(2, .int x9), (1, .int x8), (0, .ref (za Z v0))]) 2 (dk kX5_allEarned 22 rfl) rfl (by rw [ex9]; rfl) (by decide) rfl ?_
      refine g_goto C (tgt := 4) (dk kX5_allEarned 23 rfl) (by decide) ?_
      exact g_sub [2, 1, 0] rfl (ih x8 x9 y h he)
set_option maxRecDepth 100000 in
set_option maxHeartbeats 4000000 in
theorem t_X5_allEarned {l : Launch} {Z : ZZ} {X : XX} (μ : Mm) (a0 : Nat) (r : Int32) (k0 : (zk Z a0).1 = 4) (h : f_X5_allEarned (zk Z) μ a0 = some r) (C : Cx l Z false X cX5_allEarned RX5 3 (some .int)) (E : Ex Z X 0 0 0 (some (.int r)) Z μ) : G Z X 3 0 0 0 [(0, .ref (za Z a0))] [] μ := by
  unfold f_X5_allEarned at h
  refine g_iconst C (v := 0) (by decide) (dk kX5_allEarned 0 rfl) ?_
  refine g_istore_n C (i := 1) (lv' := [(1, .int 0), (0, .ref (za Z a0))]) (dk kX5_allEarned 1 rfl) rfl (by decide) rfl ?_
  refine g_iconst C (v := 0) (by decide) (dk kX5_allEarned 2 rfl) ?_
  refine g_istore_n C (i := 2) (lv' := [(2, .int 0), (1, .int 0), (0, .ref (za Z a0))]) (dk kX5_allEarned 3 rfl) rfl (by decide) rfl ?_
  obtain ⟨q10, eq10, h⟩ := bd_inv h
  refine g_sub [2, 1, 0] (lv' := [(0, .ref (za Z a0)), (1, .int 0), (2, .int 0)]) rfl ?_
  refine gl_X5_allEarned_4 a0 k0 μ C E.2 FU 0 0 _ eq10 ?_
  obtain ⟨x11, ex11, h⟩ := lt_inv h
  rw [← ex11]
  refine g_iload_n C (i := 1) 0 rfl rfl (dk kX5_allEarned 24 rfl) ?_
  have h9 := Option.some.inj h
  subst h9
  exact g_iret C E rfl rfl (Nat.le_refl 0) (Nat.le_refl 0) (dk kX5_allEarned 25 rfl)
theorem ct_X5_allEarned {l : Launch} {Z : ZZ} {μ : Mm} {a0 : Nat} {r : Int32} (k0 : (zk Z a0).1 = 4) (h : f_X5_allEarned (zk Z) μ a0 = some r) : CtM l Z false yX5_allEarned cX5_allEarned 3 (some .int) 0 0 0 [.ref (za Z a0)] μ (some (.int r)) Z μ := ct_of rfl rfl (Nat.le_of_ble_eq_true rfl) (fun X C E => t_X5_allEarned μ a0 r k0 h C E)

def qX5_allFailed : List (Nat × Instr × Nat) := [(0, .iconst 0, 1), (1, .istore_n 1, 1), (2, .iconst 0, 1), (3, .istore_n 2, 1), (4, .iload_n 2, 1), (5, .aload_n 0, 1), (6, .getfield 55, 3), (9, .if_icmp .ge 21, 3), (12, .iload_n 1, 1), (13, .aload_n 0, 1), (14, .getfield 24, 3), (17, .iload_n 2, 1), (18, .aaload, 1), (19, .getfield 169, 3), (22, .iadd, 1), (23, .istore_n 1, 1), (24, .iinc 2 1, 3), (27, .goto (-23), 3), (30, .iload_n 1, 1), (31, .ireturn, 1)]
theorem kX5_allFailed : ∀ q ∈ qX5_allFailed, decode cX5_allFailed q.1 = .ok q.2 := by decide +kernel
def f_X5_allFailed_l4 (K : Nat → Nat × Nat) (μ : Mm) (v0 : Nat) : Nat → Int32 → Int32 → Option (Int32)
  | 0, _, _ => none
  | n + 1, v1, v2 => if (μ.1 v0 4) ≤ v2 then (some v1) else (bd (rf K μ v0 3 10) fun b2 => gd (inb v2 (K b2).2) <| bd (rf K μ b2 (ix v2) 3) fun b4 => lt1 (α := Int32) (v1 + (μ.1 b4 3)) fun x5 => lt1 (α := Int32) (v2 + 1) fun x6 => f_X5_allFailed_l4 K μ v0 n x5 x6)
def f_X5_allFailed (K : Nat → Nat × Nat) (μ : Mm) (a0 : Nat) : Option (Int32) :=
  bd (f_X5_allFailed_l4 K μ a0 FU 0 0) fun q7 => lt1 q7 fun x8 => some x8
set_option maxRecDepth 100000 in
set_option maxHeartbeats 4000000 in
theorem gl_X5_allFailed_4 {l : Launch} {Z : ZZ} {X : XX} (v0 : Nat) (k0 : (zk Z v0).1 = 4) (μ : Mm) (C : Cx l Z false X cX5_allFailed RX5 3 (some .int)) (E : xR X = rmm 0 0 0) : ∀ (n : Nat) (v1 : Int32) (v2 : Int32) (y : Int32), f_X5_allFailed_l4 (zk Z) μ v0 n v1 v2 = some y → G Z X 3 0 0 30 [(1, .int y)] [] (μ) → G Z X 3 0 0 4 [(0, .ref (za Z v0)), (1, .int v1), (2, .int v2)] [] μ := by
  intro n
  induction n with
  | zero => intro v1 v2 y h he; unfold f_X5_allFailed_l4 at h; cases h
  | succ n ih =>
    intro v1 v2 y h he
    unfold f_X5_allFailed_l4 at h
    refine g_iload_n C (i := 2) 2 rfl rfl (dk kX5_allFailed 4 rfl) ?_
    refine g_aload_n C (i := 0) 0 rfl rfl (dk kX5_allFailed 5 rfl) ?_
    refine gI_4_4 C k0 (C.w wd_1_165) (dk kX5_allFailed 6 rfl) ?_
    refine g_icmp_ge C (tgt := 30) (dk kX5_allFailed 7 rfl) (by decide) (fun c1 => ?_) (fun c1 => ?_)
    · replace h := ite_t h c1
      cases h
      exact g_sub [1] rfl he
    · replace h := ite_f h c1
      refine g_iload_n C (i := 1) 1 rfl rfl (dk kX5_allFailed 8 rfl) ?_
      refine g_aload_n C (i := 0) 0 rfl rfl (dk kX5_allFailed 9 rfl) ?_
      obtain ⟨b2, eb2, h⟩ := bd_inv h
      obtain ⟨rb2, kb2⟩ := rf_inv eb2
      refine gR_4_3 C k0 (C.w wd_1_163) rb2 (dk kX5_allFailed 10 rfl) ?_
      refine g_iload_n C (i := 2) 2 rfl rfl (dk kX5_allFailed 11 rfl) ?_
      obtain ⟨c3, h⟩ := gd_inv h
      obtain ⟨b4, eb4, h⟩ := bd_inv h
      obtain ⟨rb4, kb4⟩ := rf_inv eb4
      refine gA_10 C kb2 c3 rb4 (dk kX5_allFailed 12 rfl) ?_
      refine gIN_3_3 C kb4 (nf_12 C) (dk kX5_allFailed 13 rfl) ?_
      refine g_iadd C (dk kX5_allFailed 14 rfl) ?_
      obtain ⟨x5, ex5, h⟩ := lt_inv h
      refine g_nmi ex5 ?_
      refine g_istore_n C (i := 1) (lv' := [(1, .int x5), (0, .ref (za Z v0)), (2, .int v2)]) (dk kX5_allFailed 15 rfl) rfl (by decide) rfl ?_
      obtain ⟨x6, ex6, h⟩ := lt_inv h
      refine g_iinc C (i := 2) (v := x6) (lv' := [(2, .int x6), (1, .int x5), (0, .ref (za Z v0))]) 2 (dk kX5_allFailed 16 rfl) rfl (by rw [ex6]; rfl) (by decide) rfl ?_
      refine g_goto C (tgt := 4) (dk kX5_allFailed 17 rfl) (by decide) ?_
      exact g_sub [2, 1, 0] rfl (ih x5 x6 y h he)
set_option maxRecDepth 100000 in
set_option maxHeartbeats 4000000 in
theorem t_X5_allFailed {l : Launch} {Z : ZZ} {X : XX} (μ : Mm) (a0 : Nat) (r : Int32) (k0 : (zk Z a0).1 = 4) (h : f_X5_allFailed (zk Z) μ a0 = some r) (C : Cx l Z false X cX5_allFailed RX5 3 (some .int)) (E : Ex Z X 0 0 0 (some (.int r)) Z μ) : G Z X 3 0 0 0 [(0, .ref (za Z a0))] [] μ := by
  unfold f_X5_allFailed at h
  refine g_iconst C (v := 0) (by decide) (dk kX5_allFailed 0 rfl) ?_
  refine g_istore_n C (i := 1) (lv' := [(1, .int 0), (0, .ref (za Z a0))]) (dk kX5_allFailed 1 rfl) rfl (by decide) rfl ?_
  refine g_iconst C (v := 0) (by decide) (dk kX5_allFailed 2 rfl) ?_
  refine g_istore_n C (i := 2) (lv' := [(2, .int 0), (1, .int 0), (0, .ref (za Z a0))]) (dk kX5_allFailed 3 rfl) rfl (by decide) rfl ?_
  obtain ⟨q7, eq7, h⟩ := bd_inv h
  refine g_sub [2, 1, 0] (lv' := [(0, .ref (za Z a0)), (1, .int 0), (2, .int 0)]) rfl ?_
  refine gl_X5_allFailed_4 a0 k0 μ C E.2 FU 0 0 _ eq7 ?_
  obtain ⟨x8, ex8, h⟩ := lt_inv h
  rw [← ex8]
  refine g_iload_n C (i := 1) 0 rfl rfl (dk kX5_allFailed 18 rfl) ?_
  have h9 := Option.some.inj h
  subst h9
  exact g_iret C E rfl rfl (Nat.le_refl 0) (Nat.le_refl 0) (dk kX5_allFailed 19 rfl)
theorem ct_X5_allFailed {l : Launch} {Z : ZZ} {μ : Mm} {a0 : Nat} {r : Int32} (k0 : (zk Z a0).1 = 4) (h : f_X5_allFailed (zk Z) μ a0 = some r) : CtM l Z false yX5_allFailed cX5_allFailed 3 (some .int) 0 0 0 [.ref (za Z a0)] μ (some (.int r)) Z μ := ct_of rfl rfl (Nat.le_of_ble_eq_true rfl) (fun X C E => t_X5_allFailed μ a0 r k0 h C E)

def qX5_allPrinted : List (Nat × Instr × Nat) := [(0, .iconst 0, 1), (1, .istore_n 1, 1), (2, .iconst 0, 1), (3, .istore_n 2, 1), (4, .iload_n 2, 1), (5, .aload_n 0, 1), (6, .getfield 55, 3), (9, .if_icmp .ge 21, 3), (12, .iload_n 1, 1), (13, .aload_n 0, 1), (14, .getfield 24, 3), (17, .iload_n 2, 1), (18, .aaload, 1), (19, .getfield 162, 3), (22, .iadd, 1), (23, .istore_n 1, 1), (24, .iinc 2 1, 3), (27, .goto (-23), 3), (30, .iload_n 1, 1), (31, .ireturn, 1)]
theorem kX5_allPrinted : ∀ q ∈ qX5_allPrinted, decode cX5_allPrinted q.1 = .ok q.2 := by decide +kernel
def f_X5_allPrinted_l4 (K : Nat → Nat × Nat) (μ : Mm) (v0 : Nat) : Nat → Int32 → Int32 → Option (Int32)
  | 0, _, _ => none
  | n + 1, v1, v2 => if (μ.1 v0 4) ≤ v2 then (some v1) else (bd (rf K μ v0 3 10) fun b2 => gd (inb v2 (K b2).2) <| bd (rf K μ b2 (ix v2) 3) fun b4 => lt1 (α := Int32) (v1 + (μ.1 b4 2)) fun x5 => lt1 (α := Int32) (v2 + 1) fun x6 => f_X5_allPrinted_l4 K μ v0 n x5 x6)
def f_X5_allPrinted (K : Nat → Nat × Nat) (μ : Mm) (a0 : Nat) : Option (Int32) :=
  bd (f_X5_allPrinted_l4 K μ a0 FU 0 0) fun q7 => lt1 q7 fun x8 => some x8
set_option maxRecDepth 100000 in
set_option maxHeartbeats 4000000 in
theorem gl_X5_allPrinted_4 {l : Launch} {Z : ZZ} {X : XX} (v0 : Nat) (k0 : (zk Z v0).1 = 4) (μ : Mm) (C : Cx l Z false X cX5_allPrinted RX5 3 (some .int)) (E : xR X = rmm 0 0 0) : ∀ (n : Nat) (v1 : Int32) (v2 : Int32) (y : Int32), f_X5_allPrinted_l4 (zk Z) μ v0 n v1 v2 = some y → G Z X 3 0 0 30 [(1, .int y)] [] (μ) → G Z X 3 0 0 4 [(0, .ref (za Z v0)), (1, .int v1), (2, .int v2)] [] μ := by
  intro n
  induction n with
  | zero => intro v1 v2 y h he; unfold f_X5_allPrinted_l4 at h; cases h
  | succ n ih =>
    intro v1 v2 y h he
    unfold f_X5_allPrinted_l4 at h
    refine g_iload_n C (i := 2) 2 rfl rfl (dk kX5_allPrinted 4 rfl) ?_
    refine g_aload_n C (i := 0) 0 rfl rfl (dk kX5_allPrinted 5 rfl) ?_
    refine gI_4_4 C k0 (C.w wd_1_165) (dk kX5_allPrinted 6 rfl) ?_
    refine g_icmp_ge C (tgt := 30) (dk kX5_allPrinted 7 rfl) (by decide) (fun c1 => ?_) (fun c1 => ?_)
    · replace h := ite_t h c1
      cases h
      exact g_sub [1] rfl he
    · replace h := ite_f h c1
      refine g_iload_n C (i := 1) 1 rfl rfl (dk kX5_allPrinted 8 rfl) ?_
      refine g_aload_n C (i := 0) 0 rfl rfl (dk kX5_allPrinted 9 rfl) ?_
      obtain ⟨b2, eb2, h⟩ := bd_inv h
      obtain ⟨rb2, kb2⟩ := rf_inv eb2
      refine gR_4_3 C k0 (C.w wd_1_163) rb2 (dk kX5_allPrinted 10 rfl) ?_
      refine g_iload_n C (i := 2) 2 rfl rfl (dk kX5_allPrinted 11 rfl) ?_
      obtain ⟨c3, h⟩ := gd_inv h
      obtain ⟨b4, eb4, h⟩ := bd_inv h
      obtain ⟨rb4, kb4⟩ := rf_inv eb4
      refine gA_10 C kb2 c3 rb4 (dk kX5_allPrinted 12 rfl) ?_
      refine gIN_3_2 C kb4 (nf_11 C) (dk kX5_allPrinted 13 rfl) ?_
      refine g_iadd C (dk kX5_allPrinted 14 rfl) ?_
      obtain ⟨x5, ex5, h⟩ := lt_inv h
      refine g_nmi ex5 ?_
      refine g_istore_n C (i := 1) (lv' := [(1, .int x5), (0, .ref (za Z v0)), (2, .int v2)]) (dk kX5_allPrinted 15 rfl) rfl (by decide) rfl ?_
      obtain ⟨x6, ex6, h⟩ := lt_inv h
      refine g_iinc C (i := 2) (v := x6) (lv' := [(2, .int x6), (1, .int x5), (0, .ref (za Z v0))]) 2 (dk kX5_allPrinted 16 rfl) rfl (by rw [ex6]; rfl) (by decide) rfl ?_
      refine g_goto C (tgt := 4) (dk kX5_allPrinted 17 rfl) (by decide) ?_
      exact g_sub [2, 1, 0] rfl (ih x5 x6 y h he)
set_option maxRecDepth 100000 in
set_option maxHeartbeats 4000000 in
theorem t_X5_allPrinted {l : Launch} {Z : ZZ} {X : XX} (μ : Mm) (a0 : Nat) (r : Int32) (k0 : (zk Z a0).1 = 4) (h : f_X5_allPrinted (zk Z) μ a0 = some r) (C : Cx l Z false X cX5_allPrinted RX5 3 (some .int)) (E : Ex Z X 0 0 0 (some (.int r)) Z μ) : G Z X 3 0 0 0 [(0, .ref (za Z a0))] [] μ := by
  unfold f_X5_allPrinted at h
  refine g_iconst C (v := 0) (by decide) (dk kX5_allPrinted 0 rfl) ?_
  refine g_istore_n C (i := 1) (lv' := [(1, .int 0), (0, .ref (za Z a0))]) (dk kX5_allPrinted 1 rfl) rfl (by decide) rfl ?_
  refine g_iconst C (v := 0) (by decide) (dk kX5_allPrinted 2 rfl) ?_
  refine g_istore_n C (i := 2) (lv' := [(2, .int 0), (1, .int 0), (0, .ref (za Z a0))]) (dk kX5_allPrinted 3 rfl) rfl (by decide) rfl ?_
  obtain ⟨q7, eq7, h⟩ := bd_inv h
  refine g_sub [2, 1, 0] (lv' := [(0, .ref (za Z a0)), (1, .int 0), (2, .int 0)]) rfl ?_
  refine gl_X5_allPrinted_4 a0 k0 μ C E.2 FU 0 0 _ eq7 ?_
  obtain ⟨x8, ex8, h⟩ := lt_inv h
  rw [← ex8]
  refine g_iload_n C (i := 1) 0 rfl rfl (dk kX5_allPrinted 18 rfl) ?_
  have h9 := Option.some.inj h
  subst h9
  exact g_iret C E rfl rfl (Nat.le_refl 0) (Nat.le_refl 0) (dk kX5_allPrinted 19 rfl)
theorem ct_X5_allPrinted {l : Launch} {Z : ZZ} {μ : Mm} {a0 : Nat} {r : Int32} (k0 : (zk Z a0).1 = 4) (h : f_X5_allPrinted (zk Z) μ a0 = some r) : CtM l Z false yX5_allPrinted cX5_allPrinted 3 (some .int) 0 0 0 [.ref (za Z a0)] μ (some (.int r)) Z μ := ct_of rfl rfl (Nat.le_of_ble_eq_true rfl) (fun X C E => t_X5_allPrinted μ a0 r k0 h C E)

def qX5_allRented : List (Nat × Instr × Nat) := [(0, .iconst 0, 1), (1, .istore_n 1, 1), (2, .iconst 0, 1), (3, .istore_n 2, 1), (4, .iload_n 2, 1), (5, .aload_n 0, 1), (6, .getfield 62, 3), (9, .if_icmp .ge 21, 3), (12, .iload_n 1, 1), (13, .aload_n 0, 1), (14, .getfield 30, 3), (17, .iload_n 2, 1), (18, .aaload, 1), (19, .invokevirtual 135, 3), (22, .iadd, 1), (23, .istore_n 1, 1), (24, .iinc 2 1, 3), (27, .goto (-23), 3), (30, .iload_n 1, 1), (31, .ireturn, 1)]
theorem kX5_allRented : ∀ q ∈ qX5_allRented, decode cX5_allRented q.1 = .ok q.2 := by decide +kernel
def f_X5_allRented_l4 (K : Nat → Nat × Nat) (μ : Mm) (v0 : Nat) : Nat → Int32 → Int32 → Option (Int32)
  | 0, _, _ => none
  | n + 1, v1, v2 => if (μ.1 v0 6) ≤ v2 then (some v1) else (bd (rf K μ v0 5 9) fun b2 => gd (inb v2 (K b2).2) <| bd (rf K μ b2 (ix v2) 1) fun b4 => bd (f_X2_rented K μ b4) fun x6 => lt1 (α := Int32) (v1 + x6) fun x7 => lt1 (α := Int32) (v2 + 1) fun x8 => f_X5_allRented_l4 K μ v0 n x7 x8)
def f_X5_allRented (K : Nat → Nat × Nat) (μ : Mm) (a0 : Nat) : Option (Int32) :=
  bd (f_X5_allRented_l4 K μ a0 FU 0 0) fun q9 => lt1 q9 fun x10 => some x10
set_option maxRecDepth 100000 in
set_option maxHeartbeats 4000000 in
theorem gl_X5_allRented_4 {l : Launch} {Z : ZZ} {X : XX} (v0 : Nat) (k0 : (zk Z v0).1 = 4) (μ : Mm) (C : Cx l Z false X cX5_allRented RX5 3 (some .int)) (E : xR X = rmm 1 0 0) : ∀ (n : Nat) (v1 : Int32) (v2 : Int32) (y : Int32), f_X5_allRented_l4 (zk Z) μ v0 n v1 v2 = some y → G Z X 3 0 0 30 [(1, .int y)] [] (μ) → G Z X 3 0 0 4 [(0, .ref (za Z v0)), (1, .int v1), (2, .int v2)] [] μ := by
  intro n
  induction n with
  | zero => intro v1 v2 y h he; unfold f_X5_allRented_l4 at h; cases h
  | succ n ih =>
    intro v1 v2 y h he
    unfold f_X5_allRented_l4 at h
    refine g_iload_n C (i := 2) 2 rfl rfl (dk kX5_allRented 4 rfl) ?_
    refine g_aload_n C (i := 0) 0 rfl rfl (dk kX5_allRented 5 rfl) ?_
    refine gI_4_6 C k0 (C.w wd_1_168) (dk kX5_allRented 6 rfl) ?_
    refine g_icmp_ge C (tgt := 30) (dk kX5_allRented 7 rfl) (by decide) (fun c1 => ?_) (fun c1 => ?_)
    · replace h := ite_t h c1
      cases h
      exact g_sub [1] rfl he
    · replace h := ite_f h c1
      refine g_iload_n C (i := 1) 1 rfl rfl (dk kX5_allRented 8 rfl) ?_
      refine g_aload_n C (i := 0) 0 rfl rfl (dk kX5_allRented 9 rfl) ?_
      obtain ⟨b2, eb2, h⟩ := bd_inv h
      obtain ⟨rb2, kb2⟩ := rf_inv eb2
      refine gR_4_5 C k0 (C.w wd_1_166) rb2 (dk kX5_allRented 10 rfl) ?_
      refine g_iload_n C (i := 2) 2 rfl rfl (dk kX5_allRented 11 rfl) ?_
      obtain ⟨c3, h⟩ := gd_inv h
      obtain ⟨b4, eb4, h⟩ := bd_inv h
      obtain ⟨rb4, kb4⟩ := rf_inv eb4
      refine gA_9 C kb2 c3 rb4 (dk kX5_allRented 12 rfl) ?_
      obtain ⟨x6, eq5, h⟩ := bd_inv h
      refine g_callV C E (rest := [.int v1]) 0 (ct_X2_rented kb4 eq5) wd_3_31 mm_X2_rented ⟨rfl, by decide, by decide, by decide⟩ rfl (by decide) kb4 (by decide) rfl rfl (Nat.le_of_ble_eq_true rfl) (by decide) (dk kX5_allRented 13 rfl) ?_
      refine g_iadd C (dk kX5_allRented 14 rfl) ?_
      obtain ⟨x7, ex7, h⟩ := lt_inv h
      refine g_nmi ex7 ?_
      refine g_istore_n C (i := 1) (lv' := [(1, .int x7), (0, .ref (za Z v0)), (2, .int v2)]) (dk kX5_allRented 15 rfl) rfl (by decide) rfl ?_
      obtain ⟨x8, ex8, h⟩ := lt_inv h
      refine g_iinc C (i := 2) (v := x8) (lv' := [(2, .int x8), (1, .int x7), (0, .ref (za Z v0))]) 2 (dk kX5_allRented 16 rfl) rfl (by rw [ex8]; rfl) (by decide) rfl ?_
      refine g_goto C (tgt := 4) (dk kX5_allRented 17 rfl) (by decide) ?_
      exact g_sub [2, 1, 0] rfl (ih x7 x8 y h he)
set_option maxRecDepth 100000 in
set_option maxHeartbeats 4000000 in
theorem t_X5_allRented {l : Launch} {Z : ZZ} {X : XX} (μ : Mm) (a0 : Nat) (r : Int32) (k0 : (zk Z a0).1 = 4) (h : f_X5_allRented (zk Z) μ a0 = some r) (C : Cx l Z false X cX5_allRented RX5 3 (some .int)) (E : Ex Z X 1 0 0 (some (.int r)) Z μ) : G Z X 3 0 0 0 [(0, .ref (za Z a0))] [] μ := by
  unfold f_X5_allRented at h
  refine g_iconst C (v := 0) (by decide) (dk kX5_allRented 0 rfl) ?_
  refine g_istore_n C (i := 1) (lv' := [(1, .int 0), (0, .ref (za Z a0))]) (dk kX5_allRented 1 rfl) rfl (by decide) rfl ?_
  refine g_iconst C (v := 0) (by decide) (dk kX5_allRented 2 rfl) ?_
  refine g_istore_n C (i := 2) (lv' := [(2, .int 0), (1, .int 0), (0, .ref (za Z a0))]) (dk kX5_allRented 3 rfl) rfl (by decide) rfl ?_
  obtain ⟨q9, eq9, h⟩ := bd_inv h
  refine g_sub [2, 1, 0] (lv' := [(0, .ref (za Z a0)), (1, .int 0), (2, .int 0)]) rfl ?_
  refine gl_X5_allRented_4 a0 k0 μ C E.2 FU 0 0 _ eq9 ?_
  obtain ⟨x10, ex10, h⟩ := lt_inv h
  rw [← ex10]
  refine g_iload_n C (i := 1) 0 rfl rfl (dk kX5_allRented 18 rfl) ?_
  have h9 := Option.some.inj h
  subst h9
  exact g_iret C E rfl rfl (Nat.le_refl 0) (Nat.le_refl 0) (dk kX5_allRented 19 rfl)
theorem ct_X5_allRented {l : Launch} {Z : ZZ} {μ : Mm} {a0 : Nat} {r : Int32} (k0 : (zk Z a0).1 = 4) (h : f_X5_allRented (zk Z) μ a0 = some r) : CtM l Z false yX5_allRented cX5_allRented 3 (some .int) 1 0 0 [.ref (za Z a0)] μ (some (.int r)) Z μ := ct_of rfl rfl (Nat.le_of_ble_eq_true rfl) (fun X C E => t_X5_allRented μ a0 r k0 h C E)

def qX5_allWear : List (Nat × Instr × Nat) := [(0, .aload_n 0, 1), (1, .getfield 12, 3), (4, .iconst 0, 1), (5, .aload_n 0, 1), (6, .getfield 12, 3), (9, .getfield 68, 3), (12, .iconst 1, 1), (13, .isub, 1), (14, .invokevirtual 206, 3), (17, .ireturn, 1)]
theorem kX5_allWear : ∀ q ∈ qX5_allWear, decode cX5_allWear q.1 = .ok q.2 := by decide +kernel
def f_X5_allWear (K : Nat → Nat × Nat) (μ : Mm) (a0 : Nat) : Option (Int32) :=
  bd (rf K μ a0 0 2) fun b1 => bd (rf K μ a0 0 2) fun b2 => bd (f_X3_wearSum K μ b1 0 ((μ.1 b2 0) - 1)) fun x4 => some x4
set_option maxRecDepth 100000 in
set_option maxHeartbeats 4000000 in
theorem t_X5_allWear {l : Launch} {Z : ZZ} {X : XX} (μ : Mm) (a0 : Nat) (r : Int32) (k0 : (zk Z a0).1 = 4) (h : f_X5_allWear (zk Z) μ a0 = some r) (C : Cx l Z false X cX5_allWear RX5 1 (some .int)) (E : Ex Z X 1 0 0 (some (.int r)) Z μ) : G Z X 1 0 0 0 [(0, .ref (za Z a0))] [] μ := by
  unfold f_X5_allWear at h
  refine g_aload_n C (i := 0) 0 rfl rfl (dk kX5_allWear 0 rfl) ?_
  obtain ⟨b1, eb1, h⟩ := bd_inv h
  obtain ⟨rb1, kb1⟩ := rf_inv eb1
  refine gR_4_0 C k0 (C.w wd_1_159) rb1 (dk kX5_allWear 1 rfl) ?_
  refine g_iconst C (v := 0) (by decide) (dk kX5_allWear 2 rfl) ?_
  refine g_aload_n C (i := 0) 0 rfl rfl (dk kX5_allWear 3 rfl) ?_
  obtain ⟨b2, eb2, h⟩ := bd_inv h
  obtain ⟨rb2, kb2⟩ := rf_inv eb2
  refine gR_4_0 C k0 (C.w wd_1_159) rb2 (dk kX5_allWear 4 rfl) ?_
  refine gIN_2_0 C kb2 (nf_1 C) (dk kX5_allWear 5 rfl) ?_
  refine g_iconst C (v := 1) (by decide) (dk kX5_allWear 6 rfl) ?_
  refine g_isub C (dk kX5_allWear 7 rfl) ?_
  obtain ⟨x4, eq3, h⟩ := bd_inv h
  refine g_callV C E.2 (rest := []) 2 (ct_X3_wearSum kb1 eq3) wd_2_117 mm_X3_wearSum ⟨rfl, by decide, by decide, by decide⟩ rfl (by decide) kb1 (by decide) rfl rfl (Nat.le_of_ble_eq_true rfl) (by decide) (dk kX5_allWear 8 rfl) ?_
  have h9 := Option.some.inj h
  subst h9
  exact g_iret C E rfl rfl (Nat.le_refl 0) (Nat.le_refl 0) (dk kX5_allWear 9 rfl)
theorem ct_X5_allWear {l : Launch} {Z : ZZ} {μ : Mm} {a0 : Nat} {r : Int32} (k0 : (zk Z a0).1 = 4) (h : f_X5_allWear (zk Z) μ a0 = some r) : CtM l Z false yX5_allWear cX5_allWear 1 (some .int) 1 0 0 [.ref (za Z a0)] μ (some (.int r)) Z μ := ct_of rfl rfl (Nat.le_of_ble_eq_true rfl) (fun X C E => t_X5_allWear μ a0 r k0 h C E)

def qX5_othersRentOneOf : List (Nat × Instr × Nat) := [(0, .iconst 0, 1), (1, .istore 4, 2), (3, .iload 4, 2), (5, .aload_n 0, 1), (6, .getfield 62, 3), (9, .if_icmp .ge 32, 3), (12, .iload 4, 2), (14, .iload_n 1, 1), (15, .if_icmp .eq 20, 3), (18, .aload_n 0, 1), (19, .getfield 30, 3), (22, .iload 4, 2), (24, .aaload, 1), (25, .iload_n 2, 1), (26, .iload_n 3, 1), (27, .invokevirtual 209, 3), (30, .ifCond .eq 5, 3), (33, .iconst 1, 1), (34, .ireturn, 1), (35, .iinc 4 1, 3), (38, .goto (-35), 3), (41, .iconst 0, 1), (42, .ireturn, 1)]
theorem kX5_othersRentOneOf : ∀ q ∈ qX5_othersRentOneOf, decode cX5_othersRentOneOf q.1 = .ok q.2 := by decide +kernel
def f_X5_othersRentOneOf_l3 (K : Nat → Nat × Nat) (μ : Mm) (v0 : Nat) (v1 : Int32) (v2 : Int32) (v3 : Int32) : Nat → Int32 → Option ((Int32) ⊕ (Unit))
  | 0, _ => none
  | n + 1, v4 => if (μ.1 v0 6) ≤ v4 then (some (.inr ())) else (if v4 = v1 then (lt1 (α := Int32) (v4 + 1) fun x3 => f_X5_othersRentOneOf_l3 K μ v0 v1 v2 v3 n x3) else (bd (rf K μ v0 5 9) fun b4 => gd (inb v4 (K b4).2) <| bd (rf K μ b4 (ix v4) 1) fun b6 => bd (f_X2_rentsOneOf K μ b6 v2 v3) fun x8 => if x8 = 0 then (lt1 (α := Int32) (v4 + 1) fun x10 => f_X5_othersRentOneOf_l3 K μ v0 v1 v2 v3 n x10) else (some (.inl 1))))
def f_X5_othersRentOneOf (K : Nat → Nat × Nat) (μ : Mm) (a0 : Nat) (a1 : Int32) (a2 : Int32) (a3 : Int32) : Option (Int32) :=
  bd (f_X5_othersRentOneOf_l3 K μ a0 a1 a2 a3 FU 0) fun q11 => (match q11 with | .inl r => some r | .inr q12 => some 0)
set_option maxRecDepth 100000 in
set_option maxHeartbeats 4000000 in
theorem gl_X5_othersRentOneOf_3 {l : Launch} {Z : ZZ} {X : XX} (v0 : Nat) (v1 : Int32) (v2 : Int32) (v3 : Int32) (k0 : (zk Z v0).1 = 4) (μ : Mm) (C : Cx l Z false X cX5_othersRentOneOf RX5 5 (some .boolean)) (E : xR X = rmm 1 0 0) : ∀ (n : Nat) (v4 : Int32) (y : (Int32) ⊕ (Unit)), f_X5_othersRentOneOf_l3 (zk Z) μ v0 v1 v2 v3 n v4 = some y → (∀ r, y = .inl r → Ex Z X 1 0 0 (some (.int r)) Z μ) → (∀ y9, y = .inr y9 → G Z X 5 0 0 41 [] [] (μ)) → G Z X 5 0 0 3 [(0, .ref (za Z v0)), (1, .int v1), (2, .int v2), (3, .int v3), (4, .int v4)] [] μ := by
  intro n
  induction n with
  | zero => intro v4 y h hr he; unfold f_X5_othersRentOneOf_l3 at h; cases h
  | succ n ih =>
    intro v4 y h hr he
    unfold f_X5_othersRentOneOf_l3 at h
    refine g_iload C (i := 4) 4 rfl (dk kX5_othersRentOneOf 2 rfl) ?_
    refine g_aload_n C (i := 0) 0 rfl rfl (dk kX5_othersRentOneOf 3 rfl) ?_
    refine gI_4_6 C k0 (C.w wd_1_168) (dk kX5_othersRentOneOf 4 rfl) ?_
    refine g_icmp_ge C (tgt := 41) (dk kX5_othersRentOneOf 5 rfl) (by decide) (fun c1 => ?_) (fun c1 => ?_)
    · replace h := ite_t h c1
      cases h
      exact g_sub [] rfl (he _ rfl)
    · replace h := ite_f h c1
      refine g_iload C (i := 4) 4 rfl (dk kX5_othersRentOneOf 6 rfl) ?_
      refine g_iload_n C (i := 1) 1 rfl rfl (dk kX5_othersRentOneOf 7 rfl) ?_
      refine g_icmp_eq C (tgt := 35) (dk kX5_othersRentOneOf 8 rfl) (by decide) (fun c2 => ?_) (fun c2 => ?_)
      · replace h := ite_t h c2
        obtain ⟨x3, ex3, h⟩ := lt_inv h
        refine g_iinc C (i := 4) (v := x3) (lv' := [(4, .int x3), (0, .ref (za Z v0)), (1, .int v1), (2, .int v2), (3, .int v3)]) 4 (dk kX5_othersRentOneOf 19 rfl) rfl (by rw [ex3]; rfl) (by decide) rfl ?_
        refine g_goto C (tgt := 3) (dk kX5_othersRentOneOf 20 rfl) (by decide) ?_
        exact g_sub [1, 2, 3, 4, 0] rfl (ih x3 y h hr he)
      · replace h := ite_f h c2
        refine g_aload_n C (i := 0) 0 rfl rfl (dk kX5_othersRentOneOf 9 rfl) ?_
        obtain ⟨b4, eb4, h⟩ := bd_inv h
        obtain ⟨rb4, kb4⟩ := rf_inv eb4
        refine gR_4_5 C k0 (C.w wd_1_166) rb4 (dk kX5_othersRentOneOf 10 rfl) ?_
        refine g_iload C (i := 4) 4 rfl (dk kX5_othersRentOneOf 11 rfl) ?_
        obtain ⟨c5, h⟩ := gd_inv h
        obtain ⟨b6, eb6, h⟩ := bd_inv h
        obtain ⟨rb6, kb6⟩ := rf_inv eb6
        refine gA_9 C kb4 c5 rb6 (dk kX5_othersRentOneOf 12 rfl) ?_
        refine g_iload_n C (i := 2) 2 rfl rfl (dk kX5_othersRentOneOf 13 rfl) ?_
        refine g_iload_n C (i := 3) 3 rfl rfl (dk kX5_othersRentOneOf 14 rfl) ?_
        obtain ⟨x8, eq7, h⟩ := bd_inv h
        refine g_callV C E (rest := []) 2 (ct_X2_rentsOneOf kb6 eq7) wd_3_54 mm_X2_rentsOneOf ⟨rfl, by decide, by decide, by decide⟩ rfl (by decide) kb6 (by decide) rfl rfl (Nat.le_of_ble_eq_true rfl) (by decide) (dk kX5_othersRentOneOf 15 rfl) ?_
        refine g_if_eq C (tgt := 35) (dk kX5_othersRentOneOf 16 rfl) (by decide) (fun c9 => ?_) (fun c9 => ?_)
        · replace h := ite_t h c9
          obtain ⟨x10, ex10, h⟩ := lt_inv h
          refine g_iinc C (i := 4) (v := x10) (lv' := [(4, .int x10), (0, .ref (za Z v0)), (1, .int v1), (2, .int v2), (3, .int v3)]) 4 (dk kX5_othersRentOneOf 19 rfl) rfl (by rw [ex10]; rfl) (by decide) rfl ?_
          refine g_goto C (tgt := 3) (dk kX5_othersRentOneOf 20 rfl) (by decide) ?_
          exact g_sub [1, 2, 3, 4, 0] rfl (ih x10 y h hr he)
        · replace h := ite_f h c9
          refine g_iconst C (v := 1) (by decide) (dk kX5_othersRentOneOf 17 rfl) ?_
          cases h
          have E := hr _ rfl
          exact g_iret C E rfl rfl (Nat.le_refl 0) (Nat.le_refl 0) (dk kX5_othersRentOneOf 18 rfl)
set_option maxRecDepth 100000 in
set_option maxHeartbeats 4000000 in
theorem t_X5_othersRentOneOf {l : Launch} {Z : ZZ} {X : XX} (μ : Mm) (a0 : Nat) (a1 : Int32) (a2 : Int32) (a3 : Int32) (r : Int32) (k0 : (zk Z a0).1 = 4) (h : f_X5_othersRentOneOf (zk Z) μ a0 a1 a2 a3 = some r) (C : Cx l Z false X cX5_othersRentOneOf RX5 5 (some .boolean)) (E : Ex Z X 1 0 0 (some (.int r)) Z μ) : G Z X 5 0 0 0 [(0, .ref (za Z a0)), (1, .int a1), (2, .int a2), (3, .int a3)] [] μ := by
  unfold f_X5_othersRentOneOf at h
  refine g_iconst C (v := 0) (by decide) (dk kX5_othersRentOneOf 0 rfl) ?_
  refine g_istore C (i := 4) (lv' := [(4, .int 0), (0, .ref (za Z a0)), (1, .int a1), (2, .int a2), (3, .int a3)]) (dk kX5_othersRentOneOf 1 rfl) (by decide) rfl ?_
  obtain ⟨q11, eq11, h⟩ := bd_inv h
  refine g_sub [1, 2, 3, 4, 0] (lv' := [(0, .ref (za Z a0)), (1, .int a1), (2, .int a2), (3, .int a3), (4, .int 0)]) rfl ?_
  cases q11 with
  | inl r =>
    cases h
    exact gl_X5_othersRentOneOf_3 a0 a1 a2 a3 k0 μ C E.2 FU 0 _ eq11 (fun r hr9 => by cases hr9; exact E) (fun y hy9 => by cases hy9)
  | inr q12 =>
    refine gl_X5_othersRentOneOf_3 a0 a1 a2 a3 k0 μ C E.2 FU 0 _ eq11 (fun r hr9 => by cases hr9) (fun y hy9 => ?_)
    cases hy9
    refine g_iconst C (v := 0) (by decide) (dk kX5_othersRentOneOf 21 rfl) ?_
    have h9 := Option.some.inj h
    subst h9
    exact g_iret C E rfl rfl (Nat.le_refl 0) (Nat.le_refl 0) (dk kX5_othersRentOneOf 22 rfl)
theorem ct_X5_othersRentOneOf {l : Launch} {Z : ZZ} {μ : Mm} {a0 : Nat} {a1 : Int32} {a2 : Int32} {a3 : Int32} {r : Int32} (k0 : (zk Z a0).1 = 4) (h : f_X5_othersRentOneOf (zk Z) μ a0 a1 a2 a3 = some r) : CtM l Z false yX5_othersRentOneOf cX5_othersRentOneOf 5 (some .boolean) 1 0 0 [.ref (za Z a0), .int a1, .int a2, .int a3] μ (some (.int r)) Z μ := ct_of rfl rfl (Nat.le_of_ble_eq_true rfl) (fun X C E => t_X5_othersRentOneOf μ a0 a1 a2 a3 r k0 h C E)

def qX5_reasonAt : List (Nat × Instr × Nat) := [(0, .iload_n 3, 1), (1, .aload_n 0, 1), (2, .getfield 24, 3), (5, .iload_n 2, 1), (6, .aaload, 1), (7, .getfield 88, 3), (10, .iadd, 1), (11, .iconst 1, 1), (12, .isub, 1), (13, .istore 4, 2), (15, .iload 4, 2), (17, .aload_n 0, 1), (18, .getfield 12, 3), (21, .getfield 68, 3), (24, .if_icmp .lt 5, 3), (27, .iconst 1, 1), (28, .ireturn, 1), (29, .aload_n 0, 1), (30, .iload_n 1, 1), (31, .iload_n 3, 1), (32, .iload 4, 2), (34, .invokevirtual 122, 3), (37, .ifCond .eq 5, 3), (40, .iconst 2, 1), (41, .ireturn, 1), (42, .aload_n 0, 1), (43, .getfield 24, 3), (46, .iload_n 2, 1), (47, .aaload, 1), (48, .invokevirtual 213, 3), (51, .ifCond .ne 7, 3), (54, .iconst 3, 1), (55, .goto 4, 3), (58, .iconst 0, 1), (59, .ireturn, 1)]
theorem kX5_reasonAt : ∀ q ∈ qX5_reasonAt, decode cX5_reasonAt q.1 = .ok q.2 := by decide +kernel
def f_X5_reasonAt (K : Nat → Nat × Nat) (μ : Mm) (a0 : Nat) (a1 : Int32) (a2 : Int32) (a3 : Int32) : Option (Int32) :=
  bd (rf K μ a0 3 10) fun b1 => gd (inb a2 (K b1).2) <| bd (rf K μ b1 (ix a2) 3) fun b3 => lt1 (α := Int32) ((a3 + (μ.1 b3 0)) - 1) fun x4 => bd (rf K μ a0 0 2) fun b5 => if x4 < (μ.1 b5 0) then (bd (f_X5_othersRentOneOf K μ a0 a1 a3 x4) fun x8 => if x8 = 0 then (bd (rf K μ a0 3 10) fun b10 => gd (inb a2 (K b10).2) <| bd (rf K μ b10 (ix a2) 3) fun b12 => bd (f_X4_blackCells K μ b12) fun x14 => lt1 (α := Int32) (if x14 = 0 then 3 else 0) fun x15 => some x15) else (some 2)) else (some 1)
set_option maxRecDepth 100000 in
set_option maxHeartbeats 4000000 in
theorem t_X5_reasonAt {l : Launch} {Z : ZZ} {X : XX} (μ : Mm) (a0 : Nat) (a1 : Int32) (a2 : Int32) (a3 : Int32) (r : Int32) (k0 : (zk Z a0).1 = 4) (h : f_X5_reasonAt (zk Z) μ a0 a1 a2 a3 = some r) (C : Cx l Z false X cX5_reasonAt RX5 5 (some .int)) (E : Ex Z X 2 0 0 (some (.int r)) Z μ) : G Z X 5 0 0 0 [(0, .ref (za Z a0)), (1, .int a1), (2, .int a2), (3, .int a3)] [] μ := by
  unfold f_X5_reasonAt at h
  refine g_iload_n C (i := 3) 3 rfl rfl (dk kX5_reasonAt 0 rfl) ?_
  refine g_aload_n C (i := 0) 0 rfl rfl (dk kX5_reasonAt 1 rfl) ?_
  obtain ⟨b1, eb1, h⟩ := bd_inv h
  obtain ⟨rb1, kb1⟩ := rf_inv eb1
  refine gR_4_3 C k0 (C.w wd_1_163) rb1 (dk kX5_reasonAt 2 rfl) ?_
  refine g_iload_n C (i := 2) 2 rfl rfl (dk kX5_reasonAt 3 rfl) ?_
  obtain ⟨c2, h⟩ := gd_inv h
  obtain ⟨b3, eb3, h⟩ := bd_inv h
  obtain ⟨rb3, kb3⟩ := rf_inv eb3
  refine gA_10 C kb1 c2 rb3 (dk kX5_reasonAt 4 rfl) ?_
  refine gIN_3_0 C kb3 (nf_7 C) (dk kX5_reasonAt 5 rfl) ?_
  refine g_iadd C (dk kX5_reasonAt 6 rfl) ?_
  refine g_iconst C (v := 1) (by decide) (dk kX5_reasonAt 7 rfl) ?_
  refine g_isub C (dk kX5_reasonAt 8 rfl) ?_
  obtain ⟨x4, ex4, h⟩ := lt_inv h
  refine g_nmi ex4 ?_
  refine g_istore C (i := 4) (lv' := [(4, .int x4), (0, .ref (za Z a0)), (1, .int a1), (2, .int a2), (3, .int a3)]) (dk kX5_reasonAt 9 rfl) (by decide) rfl ?_
  refine g_iload C (i := 4) 0 rfl (dk kX5_reasonAt 10 rfl) ?_
  refine g_aload_n C (i := 0) 1 rfl rfl (dk kX5_reasonAt 11 rfl) ?_
  obtain ⟨b5, eb5, h⟩ := bd_inv h
  obtain ⟨rb5, kb5⟩ := rf_inv eb5
  refine gR_4_0 C k0 (C.w wd_1_159) rb5 (dk kX5_reasonAt 12 rfl) ?_
  refine gIN_2_0 C kb5 (nf_1 C) (dk kX5_reasonAt 13 rfl) ?_
  refine g_icmp_lt C (tgt := 29) (dk kX5_reasonAt 14 rfl) (by decide) (fun c6 => ?_) (fun c6 => ?_)
  · replace h := ite_t h c6
    refine g_aload_n C (i := 0) 1 rfl rfl (dk kX5_reasonAt 17 rfl) ?_
    refine g_iload_n C (i := 1) 2 rfl rfl (dk kX5_reasonAt 18 rfl) ?_
    refine g_iload_n C (i := 3) 4 rfl rfl (dk kX5_reasonAt 19 rfl) ?_
    refine g_iload C (i := 4) 0 rfl (dk kX5_reasonAt 20 rfl) ?_
    obtain ⟨x8, eq7, h⟩ := bd_inv h
    refine g_callV C E.2 (rest := []) 3 (ct_X5_othersRentOneOf k0 eq7) wd_3_50 mm_X5_othersRentOneOf ⟨rfl, by decide, by decide, by decide⟩ rfl (by decide) k0 (by decide) rfl rfl (Nat.le_of_ble_eq_true rfl) (by decide) (dk kX5_reasonAt 21 rfl) ?_
    refine g_if_eq C (tgt := 42) (dk kX5_reasonAt 22 rfl) (by decide) (fun c9 => ?_) (fun c9 => ?_)
    · replace h := ite_t h c9
      refine g_aload_n C (i := 0) 1 rfl rfl (dk kX5_reasonAt 25 rfl) ?_
      obtain ⟨b10, eb10, h⟩ := bd_inv h
      obtain ⟨rb10, kb10⟩ := rf_inv eb10
      refine gR_4_3 C k0 (C.w wd_1_163) rb10 (dk kX5_reasonAt 26 rfl) ?_
      refine g_iload_n C (i := 2) 3 rfl rfl (dk kX5_reasonAt 27 rfl) ?_
      obtain ⟨c11, h⟩ := gd_inv h
      obtain ⟨b12, eb12, h⟩ := bd_inv h
      obtain ⟨rb12, kb12⟩ := rf_inv eb12
      refine gA_10 C kb10 c11 rb12 (dk kX5_reasonAt 28 rfl) ?_
      obtain ⟨x14, eq13, h⟩ := bd_inv h
      refine g_callV C E.2 (rest := []) 0 (ct_X4_blackCells kb12 eq13) wd_3_94 mm_X4_blackCells ⟨rfl, by decide, by decide, by decide⟩ rfl (by decide) kb12 (by decide) rfl rfl (Nat.le_of_ble_eq_true rfl) (by decide) (dk kX5_reasonAt 29 rfl) ?_
      obtain ⟨x15, ex15, h⟩ := lt_inv h
      have kj16 : G Z X 5 0 0 59 [(4, .int x4), (0, .ref (za Z a0)), (1, .int a1), (2, .int a2), (3, .int a3)] [.int x15] μ := by
        have h9 := Option.some.inj h
        subst h9
        exact g_iret C E rfl rfl (Nat.le_refl 0) (Nat.le_refl 0) (dk kX5_reasonAt 34 rfl)
      clear h
      refine g_if_ne C (tgt := 58) (dk kX5_reasonAt 30 rfl) (by decide) (fun c17 => ?_) (fun c17 => ?_)
      · refine g_iconst C (v := 0) (by decide) (dk kX5_reasonAt 33 rfl) ?_
        exact g_nmi (by rw [ex15, if_neg c17]) kj16
      · refine g_iconst C (v := 3) (by decide) (dk kX5_reasonAt 31 rfl) ?_
        refine g_goto C (tgt := 59) (dk kX5_reasonAt 32 rfl) (by decide) ?_
        exact g_nmi (by rw [ex15, if_pos c17]) kj16
    · replace h := ite_f h c9
      refine g_iconst C (v := 2) (by decide) (dk kX5_reasonAt 23 rfl) ?_
      have h9 := Option.some.inj h
      subst h9
      exact g_iret C E rfl rfl (Nat.le_refl 0) (Nat.le_refl 0) (dk kX5_reasonAt 24 rfl)
  · replace h := ite_f h c6
    refine g_iconst C (v := 1) (by decide) (dk kX5_reasonAt 15 rfl) ?_
    have h9 := Option.some.inj h
    subst h9
    exact g_iret C E rfl rfl (Nat.le_refl 0) (Nat.le_refl 0) (dk kX5_reasonAt 16 rfl)
theorem ct_X5_reasonAt {l : Launch} {Z : ZZ} {μ : Mm} {a0 : Nat} {a1 : Int32} {a2 : Int32} {a3 : Int32} {r : Int32} (k0 : (zk Z a0).1 = 4) (h : f_X5_reasonAt (zk Z) μ a0 a1 a2 a3 = some r) : CtM l Z false yX5_reasonAt cX5_reasonAt 5 (some .int) 2 0 0 [.ref (za Z a0), .int a1, .int a2, .int a3] μ (some (.int r)) Z μ := ct_of rfl rfl (Nat.le_of_ble_eq_true rfl) (fun X C E => t_X5_reasonAt μ a0 a1 a2 a3 r k0 h C E)

def qX5_unreadableAt : List (Nat × Instr × Nat) := [(0, .aload_n 0, 1), (1, .getfield 34, 3), (4, .aload_n 0, 1), (5, .getfield 12, 3), (8, .iload_n 2, 1), (9, .aload_n 0, 1), (10, .getfield 24, 3), (13, .iload_n 1, 1), (14, .aaload, 1), (15, .getfield 88, 3), (18, .invokevirtual 224, 3), (21, .aload_n 0, 1), (22, .getfield 34, 3), (25, .aload_n 0, 1), (26, .getfield 24, 3), (29, .iload_n 1, 1), (30, .aaload, 1), (31, .iconst 0, 1), (32, .aload_n 0, 1), (33, .getfield 18, 3), (36, .invokevirtual 148, 3), (39, .ireturn, 1)]
theorem kX5_unreadableAt : ∀ q ∈ qX5_unreadableAt, decode cX5_unreadableAt q.1 = .ok q.2 := by decide +kernel
def f_X5_unreadableAt (K : Nat → Nat × Nat) (μ : Mm) (a0 : Nat) (a1 : Int32) (a2 : Int32) : Option (Int32 × Mm) :=
  bd (rf K μ a0 1 2) fun b1 => bd (rf K μ a0 0 2) fun b2 => bd (rf K μ a0 3 10) fun b3 => gd (inb a1 (K b3).2) <| bd (rf K μ b3 (ix a1) 3) fun b5 => bd (f_X3_takePart K μ b1 b2 a2 (μ.1 b5 0)) fun μ7 => bd (rf K μ7 a0 1 2) fun b8 => bd (rf K μ7 a0 3 10) fun b9 => gd (inb a1 (K b9).2) <| bd (rf K μ7 b9 (ix a1) 3) fun b11 => bd (rf K μ7 a0 2 8) fun b12 => bd (f_X3_printRows K μ7 b8 b11 0 b12) fun q13 => lt1 q13.1 fun x15 => lt1 q13.2 fun μ14 => some (x15, μ14)
set_option maxRecDepth 100000 in
set_option maxHeartbeats 4000000 in
theorem t_X5_unreadableAt {l : Launch} {Z : ZZ} {X : XX} (μ : Mm) (a0 : Nat) (a1 : Int32) (a2 : Int32) (r : Int32) (μ' : Mm) (k0 : (zk Z a0).1 = 4) (h : f_X5_unreadableAt (zk Z) μ a0 a1 a2 = some (r, μ')) (C : Cx l Z false X cX5_unreadableAt RX5 3 (some .int)) (E : Ex Z X 2 0 0 (some (.int r)) Z μ') : G Z X 3 0 0 0 [(0, .ref (za Z a0)), (1, .int a1), (2, .int a2)] [] μ := by
  unfold f_X5_unreadableAt at h
  refine g_aload_n C (i := 0) 0 rfl rfl (dk kX5_unreadableAt 0 rfl) ?_
  obtain ⟨b1, eb1, h⟩ := bd_inv h
  obtain ⟨rb1, kb1⟩ := rf_inv eb1
  refine gR_4_1 C k0 (C.w wd_1_161) rb1 (dk kX5_unreadableAt 1 rfl) ?_
  refine g_aload_n C (i := 0) 0 rfl rfl (dk kX5_unreadableAt 2 rfl) ?_
  obtain ⟨b2, eb2, h⟩ := bd_inv h
  obtain ⟨rb2, kb2⟩ := rf_inv eb2
  refine gR_4_0 C k0 (C.w wd_1_159) rb2 (dk kX5_unreadableAt 3 rfl) ?_
  refine g_iload_n C (i := 2) 2 rfl rfl (dk kX5_unreadableAt 4 rfl) ?_
  refine g_aload_n C (i := 0) 0 rfl rfl (dk kX5_unreadableAt 5 rfl) ?_
  obtain ⟨b3, eb3, h⟩ := bd_inv h
  obtain ⟨rb3, kb3⟩ := rf_inv eb3
  refine gR_4_3 C k0 (C.w wd_1_163) rb3 (dk kX5_unreadableAt 6 rfl) ?_
  refine g_iload_n C (i := 1) 1 rfl rfl (dk kX5_unreadableAt 7 rfl) ?_
  obtain ⟨c4, h⟩ := gd_inv h
  obtain ⟨b5, eb5, h⟩ := bd_inv h
  obtain ⟨rb5, kb5⟩ := rf_inv eb5
  refine gA_10 C kb3 c4 rb5 (dk kX5_unreadableAt 8 rfl) ?_
  refine gIN_3_0 C kb5 (nf_7 C) (dk kX5_unreadableAt 9 rfl) ?_
  obtain ⟨μ7, eq6, h⟩ := bd_inv h
  refine g_callV C E.2 (rest := []) 3 (ct_X3_takePart kb1 kb2 eq6) wd_3_159 mm_X3_takePart ⟨rfl, by decide, by decide, by decide⟩ rfl (by decide) kb1 (by decide) rfl rfl (Nat.le_of_ble_eq_true rfl) (by decide) (dk kX5_unreadableAt 10 rfl) ?_
  refine g_aload_n C (i := 0) 0 rfl rfl (dk kX5_unreadableAt 11 rfl) ?_
  obtain ⟨b8, eb8, h⟩ := bd_inv h
  obtain ⟨rb8, kb8⟩ := rf_inv eb8
  refine gR_4_1 C k0 (C.w wd_1_161) rb8 (dk kX5_unreadableAt 12 rfl) ?_
  refine g_aload_n C (i := 0) 0 rfl rfl (dk kX5_unreadableAt 13 rfl) ?_
  obtain ⟨b9, eb9, h⟩ := bd_inv h
  obtain ⟨rb9, kb9⟩ := rf_inv eb9
  refine gR_4_3 C k0 (C.w wd_1_163) rb9 (dk kX5_unreadableAt 14 rfl) ?_
  refine g_iload_n C (i := 1) 1 rfl rfl (dk kX5_unreadableAt 15 rfl) ?_
  obtain ⟨c10, h⟩ := gd_inv h
  obtain ⟨b11, eb11, h⟩ := bd_inv h
  obtain ⟨rb11, kb11⟩ := rf_inv eb11
  refine gA_10 C kb9 c10 rb11 (dk kX5_unreadableAt 16 rfl) ?_
  refine g_iconst C (v := 0) (by decide) (dk kX5_unreadableAt 17 rfl) ?_
  refine g_aload_n C (i := 0) 0 rfl rfl (dk kX5_unreadableAt 18 rfl) ?_
  obtain ⟨b12, eb12, h⟩ := bd_inv h
  obtain ⟨rb12, kb12⟩ := rf_inv eb12
  refine gR_4_2 C k0 (C.w wd_1_162) rb12 (dk kX5_unreadableAt 19 rfl) ?_
  obtain ⟨q13, eq13, h⟩ := bd_inv h
  obtain ⟨x15, ex15, h⟩ := lt_inv h
  obtain ⟨μ14, eμ14, h⟩ := lt_inv h
  rw [show q13 = (x15, μ14) from by rw [ex15, eμ14]] at eq13
  refine g_callV C E.2 (rest := []) 3 (ct_X3_printRows kb8 kb11 kb12 eq13) wd_3_119 mm_X3_printRows ⟨rfl, by decide, by decide, by decide⟩ rfl (by decide) kb8 (by decide) rfl rfl (Nat.le_of_ble_eq_true rfl) (by decide) (dk kX5_unreadableAt 20 rfl) ?_
  obtain ⟨h8, h9⟩ := Prod.mk.inj (Option.some.inj h)
  subst h8
  subst h9
  exact g_iret C E rfl rfl (Nat.le_refl 0) (Nat.le_refl 0) (dk kX5_unreadableAt 21 rfl)
theorem ct_X5_unreadableAt {l : Launch} {Z : ZZ} {μ : Mm} {a0 : Nat} {a1 : Int32} {a2 : Int32} {r : Int32} {μ' : Mm} (k0 : (zk Z a0).1 = 4) (h : f_X5_unreadableAt (zk Z) μ a0 a1 a2 = some (r, μ')) : CtM l Z false yX5_unreadableAt cX5_unreadableAt 3 (some .int) 2 0 0 [.ref (za Z a0), .int a1, .int a2] μ (some (.int r)) Z μ' := ct_of rfl rfl (Nat.le_of_ble_eq_true rfl) (fun X C E => t_X5_unreadableAt μ a0 a1 a2 r μ' k0 h C E)

def qX5_priceAt : List (Nat × Instr × Nat) := [(0, .aload_n 0, 1), (1, .getfield 24, 3), (4, .iload_n 2, 1), (5, .aaload, 1), (6, .astore 4, 2), (8, .iload_n 3, 1), (9, .aload 4, 2), (11, .getfield 88, 3), (14, .iadd, 1), (15, .iconst 1, 1), (16, .isub, 1), (17, .istore 5, 2), (19, .aload 4, 2), (21, .invokevirtual 213, 3), (24, .aload 4, 2), (26, .getfield 91, 3), (29, .imul, 1), (30, .aload_n 0, 1), (31, .getfield 18, 3), (34, .bipush 6, 2), (36, .iaload, 1), (37, .imul, 1), (38, .istore 6, 2), (40, .aload_n 0, 1), (41, .getfield 30, 3), (44, .iload_n 1, 1), (45, .aaload, 1), (46, .iload_n 3, 1), (47, .iload 5, 2), (49, .invokevirtual 216, 3), (52, .ifCond .eq 12, 3), (55, .aload 4, 2), (57, .getfield 88, 3), (60, .iconst 1, 1), (61, .if_icmp .ge 6, 3), (64, .iload 6, 2), (66, .ireturn, 1), (67, .sipush 900, 3), (70, .aload_n 0, 1), (71, .getfield 12, 3), (74, .iload_n 3, 1), (75, .iload 5, 2), (77, .invokevirtual 206, 3), (80, .aload 4, 2), (82, .getfield 88, 3), (85, .idiv, 1), (86, .invokestatic 219, 3), (89, .istore 7, 2), (91, .iload 6, 2), (93, .sipush 1000, 3), (96, .iload 7, 2), (98, .isub, 1), (99, .imul, 1), (100, .sipush 1000, 3), (103, .idiv, 1), (104, .ireturn, 1)]
theorem kX5_priceAt : ∀ q ∈ qX5_priceAt, decode cX5_priceAt q.1 = .ok q.2 := by decide +kernel
def f_X5_priceAt (K : Nat → Nat × Nat) (μ : Mm) (a0 : Nat) (a1 : Int32) (a2 : Int32) (a3 : Int32) : Option (Int32) :=
  bd (rf K μ a0 3 10) fun b1 => gd (inb a2 (K b1).2) <| bd (rf K μ b1 (ix a2) 3) fun b3 => lt1 (α := Int32) ((a3 + (μ.1 b3 0)) - 1) fun x4 => bd (f_X4_blackCells K μ b3) fun x6 => bd (rf K μ a0 2 8) fun b7 => gd (inb 6 (K b7).2) <| lt1 (α := Int32) ((x6 * (μ.1 b3 1)) * (μ.1 b7 (ix 6))) fun x9 => bd (rf K μ a0 5 9) fun b10 => gd (inb a1 (K b10).2) <| bd (rf K μ b10 (ix a1) 1) fun b12 => bd (f_X2_rentsAllOf K μ b12 a3 x4) fun x14 => if x14 = 0 then (some x9) else (if 1 ≤ (μ.1 b3 0) then (bd (rf K μ a0 0 2) fun b17 => bd (f_X3_wearSum K μ b17 a3 x4) fun x19 => gd (¬ (μ.1 b3 0) = 0) <| lt1 (α := Int32) (if (x19 / (μ.1 b3 0)) < 900 then (x19 / (μ.1 b3 0)) else 900) fun x21 => some ((x9 * (1000 - x21)) / 1000)) else (some x9))
set_option maxRecDepth 100000 in
set_option maxHeartbeats 4000000 in
theorem t_X5_priceAt {l : Launch} {Z : ZZ} {X : XX} (μ : Mm) (a0 : Nat) (a1 : Int32) (a2 : Int32) (a3 : Int32) (r : Int32) (k0 : (zk Z a0).1 = 4) (h : f_X5_priceAt (zk Z) μ a0 a1 a2 a3 = some r) (C : Cx l Z false X cX5_priceAt RX5 8 (some .int)) (E : Ex Z X 2 0 0 (some (.int r)) Z μ) : G Z X 8 0 0 0 [(0, .ref (za Z a0)), (1, .int a1), (2, .int a2), (3, .int a3)] [] μ := by
  unfold f_X5_priceAt at h
  refine g_aload_n C (i := 0) 0 rfl rfl (dk kX5_priceAt 0 rfl) ?_
  obtain ⟨b1, eb1, h⟩ := bd_inv h
  obtain ⟨rb1, kb1⟩ := rf_inv eb1
  refine gR_4_3 C k0 (C.w wd_1_163) rb1 (dk kX5_priceAt 1 rfl) ?_
  refine g_iload_n C (i := 2) 2 rfl rfl (dk kX5_priceAt 2 rfl) ?_
  obtain ⟨c2, h⟩ := gd_inv h
  obtain ⟨b3, eb3, h⟩ := bd_inv h
  obtain ⟨rb3, kb3⟩ := rf_inv eb3
  refine gA_10 C kb1 c2 rb3 (dk kX5_priceAt 3 rfl) ?_
  refine g_astore C (i := 4) (lv' := [(4, .ref (za Z b3)), (0, .ref (za Z a0)), (1, .int a1), (2, .int a2), (3, .int a3)]) (dk kX5_priceAt 4 rfl) (by decide) rfl ?_
  refine g_iload_n C (i := 3) 4 rfl rfl (dk kX5_priceAt 5 rfl) ?_
  refine g_aload C (i := 4) 0 rfl (dk kX5_priceAt 6 rfl) ?_
  refine gIN_3_0 C kb3 (nf_7 C) (dk kX5_priceAt 7 rfl) ?_
  refine g_iadd C (dk kX5_priceAt 8 rfl) ?_
  refine g_iconst C (v := 1) (by decide) (dk kX5_priceAt 9 rfl) ?_
  refine g_isub C (dk kX5_priceAt 10 rfl) ?_
  obtain ⟨x4, ex4, h⟩ := lt_inv h
  refine g_nmi ex4 ?_
  refine g_istore C (i := 5) (lv' := [(5, .int x4), (4, .ref (za Z b3)), (0, .ref (za Z a0)), (1, .int a1), (2, .int a2), (3, .int a3)]) (dk kX5_priceAt 11 rfl) (by decide) rfl ?_
  refine g_aload C (i := 4) 1 rfl (dk kX5_priceAt 12 rfl) ?_
  obtain ⟨x6, eq5, h⟩ := bd_inv h
  refine g_callV C E.2 (rest := []) 0 (ct_X4_blackCells kb3 eq5) wd_3_94 mm_X4_blackCells ⟨rfl, by decide, by decide, by decide⟩ rfl (by decide) kb3 (by decide) rfl rfl (Nat.le_of_ble_eq_true rfl) (by decide) (dk kX5_priceAt 13 rfl) ?_
  refine g_aload C (i := 4) 1 rfl (dk kX5_priceAt 14 rfl) ?_
  refine gIN_3_1 C kb3 (nf_9 C) (dk kX5_priceAt 15 rfl) ?_
  refine g_imul C (dk kX5_priceAt 16 rfl) ?_
  refine g_aload_n C (i := 0) 2 rfl rfl (dk kX5_priceAt 17 rfl) ?_
  obtain ⟨b7, eb7, h⟩ := bd_inv h
  obtain ⟨rb7, kb7⟩ := rf_inv eb7
  refine gR_4_2 C k0 (C.w wd_1_162) rb7 (dk kX5_priceAt 18 rfl) ?_
  refine g_bipush C (v := 6) (by decide) (dk kX5_priceAt 19 rfl) ?_
  obtain ⟨c8, h⟩ := gd_inv h
  refine g_iald C kb7 c8 (dk kX5_priceAt 20 rfl) ?_
  refine g_imul C (dk kX5_priceAt 21 rfl) ?_
  obtain ⟨x9, ex9, h⟩ := lt_inv h
  refine g_nmi ex9 ?_
  refine g_istore C (i := 6) (lv' := [(6, .int x9), (5, .int x4), (4, .ref (za Z b3)), (0, .ref (za Z a0)), (1, .int a1), (2, .int a2), (3, .int a3)]) (dk kX5_priceAt 22 rfl) (by decide) rfl ?_
  refine g_aload_n C (i := 0) 3 rfl rfl (dk kX5_priceAt 23 rfl) ?_
  obtain ⟨b10, eb10, h⟩ := bd_inv h
  obtain ⟨rb10, kb10⟩ := rf_inv eb10
  refine gR_4_5 C k0 (C.w wd_1_166) rb10 (dk kX5_priceAt 24 rfl) ?_
  refine g_iload_n C (i := 1) 4 rfl rfl (dk kX5_priceAt 25 rfl) ?_
  obtain ⟨c11, h⟩ := gd_inv h
  obtain ⟨b12, eb12, h⟩ := bd_inv h
  obtain ⟨rb12, kb12⟩ := rf_inv eb12
  refine gA_9 C kb10 c11 rb12 (dk kX5_priceAt 26 rfl) ?_
  refine g_iload_n C (i := 3) 6 rfl rfl (dk kX5_priceAt 27 rfl) ?_
  refine g_iload C (i := 5) 1 rfl (dk kX5_priceAt 28 rfl) ?_
  obtain ⟨x14, eq13, h⟩ := bd_inv h
  refine g_callV C E.2 (rest := []) 2 (ct_X2_rentsAllOf kb12 eq13) wd_3_112 mm_X2_rentsAllOf ⟨rfl, by decide, by decide, by decide⟩ rfl (by decide) kb12 (by decide) rfl rfl (Nat.le_of_ble_eq_true rfl) (by decide) (dk kX5_priceAt 29 rfl) ?_
  refine g_if_eq C (tgt := 64) (dk kX5_priceAt 30 rfl) (by decide) (fun c15 => ?_) (fun c15 => ?_)
  · replace h := ite_t h c15
    refine g_iload C (i := 6) 0 rfl (dk kX5_priceAt 35 rfl) ?_
    have h9 := Option.some.inj h
    subst h9
    exact g_iret C E rfl rfl (Nat.le_refl 0) (Nat.le_refl 0) (dk kX5_priceAt 36 rfl)
  · replace h := ite_f h c15
    refine g_aload C (i := 4) 2 rfl (dk kX5_priceAt 31 rfl) ?_
    refine gIN_3_0 C kb3 (nf_7 C) (dk kX5_priceAt 32 rfl) ?_
    refine g_iconst C (v := 1) (by decide) (dk kX5_priceAt 33 rfl) ?_
    refine g_icmp_ge C (tgt := 67) (dk kX5_priceAt 34 rfl) (by decide) (fun c16 => ?_) (fun c16 => ?_)
    · replace h := ite_t h c16
      refine g_sipush C (v := 900) (by decide) (dk kX5_priceAt 37 rfl) ?_
      refine g_aload_n C (i := 0) 3 rfl rfl (dk kX5_priceAt 38 rfl) ?_
      obtain ⟨b17, eb17, h⟩ := bd_inv h
      obtain ⟨rb17, kb17⟩ := rf_inv eb17
      refine gR_4_0 C k0 (C.w wd_1_159) rb17 (dk kX5_priceAt 39 rfl) ?_
      refine g_iload_n C (i := 3) 6 rfl rfl (dk kX5_priceAt 40 rfl) ?_
      refine g_iload C (i := 5) 1 rfl (dk kX5_priceAt 41 rfl) ?_
      obtain ⟨x19, eq18, h⟩ := bd_inv h
      refine g_callV C E.2 (rest := [.int 900]) 2 (ct_X3_wearSum kb17 eq18) wd_2_117 mm_X3_wearSum ⟨rfl, by decide, by decide, by decide⟩ rfl (by decide) kb17 (by decide) rfl rfl (Nat.le_of_ble_eq_true rfl) (by decide) (dk kX5_priceAt 42 rfl) ?_
      refine g_aload C (i := 4) 2 rfl (dk kX5_priceAt 43 rfl) ?_
      refine gIN_3_0 C kb3 (nf_7 C) (dk kX5_priceAt 44 rfl) ?_
      obtain ⟨c20, h⟩ := gd_inv h
      refine g_idiv C c20 (dk kX5_priceAt 45 rfl) ?_
      obtain ⟨x21, ex21, h⟩ := lt_inv h
      refine g_mmin C E.2 (C.w wd_3_116) (C.w wd_3_117) (C.w wd_1_17) (C.w wd_3_118) (by decide) (Nat.le_of_ble_eq_true rfl) (Nat.le_refl 0) (Nat.le_refl 0) (dk kX5_priceAt 46 rfl) ?_
      refine g_nmi ex21 ?_
      refine g_istore C (i := 7) (lv' := [(7, .int x21), (6, .int x9), (5, .int x4), (4, .ref (za Z b3)), (0, .ref (za Z a0)), (1, .int a1), (2, .int a2), (3, .int a3)]) (dk kX5_priceAt 47 rfl) (by decide) rfl ?_
      refine g_iload C (i := 6) 1 rfl (dk kX5_priceAt 48 rfl) ?_
      refine g_sipush C (v := 1000) (by decide) (dk kX5_priceAt 49 rfl) ?_
      refine g_iload C (i := 7) 0 rfl (dk kX5_priceAt 50 rfl) ?_
      refine g_isub C (dk kX5_priceAt 51 rfl) ?_
      refine g_imul C (dk kX5_priceAt 52 rfl) ?_
      refine g_sipush C (v := 1000) (by decide) (dk kX5_priceAt 53 rfl) ?_
      refine g_idiv C (by decide) (dk kX5_priceAt 54 rfl) ?_
      have h9 := Option.some.inj h
      subst h9
      exact g_iret C E rfl rfl (Nat.le_refl 0) (Nat.le_refl 0) (dk kX5_priceAt 55 rfl)
    · replace h := ite_f h c16
      refine g_iload C (i := 6) 0 rfl (dk kX5_priceAt 35 rfl) ?_
      have h9 := Option.some.inj h
      subst h9
      exact g_iret C E rfl rfl (Nat.le_refl 0) (Nat.le_refl 0) (dk kX5_priceAt 36 rfl)
theorem ct_X5_priceAt {l : Launch} {Z : ZZ} {μ : Mm} {a0 : Nat} {a1 : Int32} {a2 : Int32} {a3 : Int32} {r : Int32} (k0 : (zk Z a0).1 = 4) (h : f_X5_priceAt (zk Z) μ a0 a1 a2 a3 = some r) : CtM l Z false yX5_priceAt cX5_priceAt 8 (some .int) 2 0 0 [.ref (za Z a0), .int a1, .int a2, .int a3] μ (some (.int r)) Z μ := ct_of rfl rfl (Nat.le_of_ble_eq_true rfl) (fun X C E => t_X5_priceAt μ a0 a1 a2 a3 r k0 h C E)

def qX5_bestPlace : List (Nat × Instr × Nat) := [(0, .iconst (-1), 1), (1, .istore_n 3, 1), (2, .iconst 0, 1), (3, .istore 4, 2), (5, .iconst 0, 1), (6, .istore 5, 2), (8, .iconst 0, 1), (9, .istore 6, 2), (11, .iload 6, 2), (13, .bipush 23, 2), (15, .if_icmp .gt 79, 3), (18, .aload_n 0, 1), (19, .iload_n 1, 1), (20, .iload_n 2, 1), (21, .iload 6, 2), (23, .invokevirtual 142, 3), (26, .ifCond .eq 6, 3), (29, .goto 59, 3), (32, .aload_n 0, 1), (33, .iload_n 2, 1), (34, .iload 6, 2), (36, .invokevirtual 228, 3), (39, .istore 7, 2), (41, .aload_n 0, 1), (42, .iload_n 1, 1), (43, .iload_n 2, 1), (44, .iload 6, 2), (46, .invokevirtual 145, 3), (49, .istore 8, 2), (51, .iload_n 3, 1), (52, .iconst (-1), 1), (53, .if_icmp .eq 24, 3), (56, .iload 7, 2), (58, .iload 4, 2), (60, .if_icmp .lt 17, 3), (63, .iload 7, 2), (65, .iload 4, 2), (67, .if_icmp .ne 21, 3), (70, .iload 8, 2), (72, .iload 5, 2), (74, .if_icmp .ge 14, 3), (77, .iload 6, 2), (79, .istore_n 3, 1), (80, .iload 7, 2), (82, .istore 4, 2), (84, .iload 8, 2), (86, .istore 5, 2), (88, .iinc 6 1, 3), (91, .goto (-80), 3), (94, .iload_n 3, 1), (95, .ireturn, 1)]
theorem kX5_bestPlace : ∀ q ∈ qX5_bestPlace, decode cX5_bestPlace q.1 = .ok q.2 := by decide +kernel
def f_X5_bestPlace_l11 (K : Nat → Nat × Nat) (v0 : Nat) (v1 : Int32) (v2 : Int32) : Nat → Mm → Int32 → Int32 → Int32 → Int32 → Option (Int32 × Mm)
  | 0, _, _, _, _, _ => none
  | n + 1, μ, v3, v4, v5, v6 => if 23 < v6 then (some (v3, μ)) else (bd (f_X5_reasonAt K μ v0 v1 v2 v6) fun x3 => if x3 = 0 then (bd (f_X5_unreadableAt K μ v0 v2 v6) fun q5 => lt1 q5.1 fun x7 => lt1 q5.2 fun μ6 => bd (f_X5_priceAt K μ6 v0 v1 v2 v6) fun x9 => if v3 = (-1) then (lt1 (α := Int32) (v6 + 1) fun x11 => f_X5_bestPlace_l11 K v0 v1 v2 n μ6 v6 x7 x9 x11) else (if x7 < v4 then (lt1 (α := Int32) (v6 + 1) fun x13 => f_X5_bestPlace_l11 K v0 v1 v2 n μ6 v6 x7 x9 x13) else (if x7 = v4 then (if v5 ≤ x9 then (lt1 (α := Int32) (v6 + 1) fun x17 => f_X5_bestPlace_l11 K v0 v1 v2 n μ6 v3 v4 v5 x17) else (lt1 (α := Int32) (v6 + 1) fun x18 => f_X5_bestPlace_l11 K v0 v1 v2 n μ6 v6 x7 x9 x18)) else (lt1 (α := Int32) (v6 + 1) fun x15 => f_X5_bestPlace_l11 K v0 v1 v2 n μ6 v3 v4 v5 x15)))) else (lt1 (α := Int32) (v6 + 1) fun x19 => f_X5_bestPlace_l11 K v0 v1 v2 n μ v3 v4 v5 x19))
def f_X5_bestPlace (K : Nat → Nat × Nat) (μ : Mm) (a0 : Nat) (a1 : Int32) (a2 : Int32) : Option (Int32 × Mm) :=
  bd (f_X5_bestPlace_l11 K a0 a1 a2 FU μ (-1) 0 0 0) fun q20 => lt1 q20.1 fun x21 => lt1 q20.2 fun μ22 => some (x21, μ22)
set_option maxRecDepth 100000 in
set_option maxHeartbeats 4000000 in
theorem gl_X5_bestPlace_11 {l : Launch} {Z : ZZ} {X : XX} (v0 : Nat) (v1 : Int32) (v2 : Int32) (k0 : (zk Z v0).1 = 4) (C : Cx l Z false X cX5_bestPlace RX5 9 (some .int)) (E : xR X = rmm 3 0 0) : ∀ (n : Nat) (μ : Mm) (v3 : Int32) (v4 : Int32) (v5 : Int32) (v6 : Int32) (y : Int32 × Mm), f_X5_bestPlace_l11 (zk Z) v0 v1 v2 n μ v3 v4 v5 v6 = some y → G Z X 9 0 0 94 [(3, .int y.1)] [] y.2 → G Z X 9 0 0 11 [(0, .ref (za Z v0)), (1, .int v1), (2, .int v2), (3, .int v3), (4, .int v4), (5, .int v5), (6, .int v6)] [] μ := by
  intro n
  induction n with
  | zero => intro μ v3 v4 v5 v6 y h he; unfold f_X5_bestPlace_l11 at h; cases h
  | succ n ih =>
    intro μ v3 v4 v5 v6 y h he
    unfold f_X5_bestPlace_l11 at h
    refine g_iload C (i := 6) 6 rfl (dk kX5_bestPlace 8 rfl) ?_
    refine g_bipush C (v := 23) (by decide) (dk kX5_bestPlace 9 rfl) ?_
    refine g_icmp_gt C (tgt := 94) (dk kX5_bestPlace 10 rfl) (by decide) (fun c1 => ?_) (fun c1 => ?_)
    · replace h := ite_t h c1
      cases h
      exact g_sub [3] rfl he
    · replace h := ite_f h c1
      refine g_aload_n C (i := 0) 0 rfl rfl (dk kX5_bestPlace 11 rfl) ?_
      refine g_iload_n C (i := 1) 1 rfl rfl (dk kX5_bestPlace 12 rfl) ?_
      refine g_iload_n C (i := 2) 2 rfl rfl (dk kX5_bestPlace 13 rfl) ?_
      refine g_iload C (i := 6) 6 rfl (dk kX5_bestPlace 14 rfl) ?_
      obtain ⟨x3, eq2, h⟩ := bd_inv h
      refine g_callV C E (rest := []) 3 (ct_X5_reasonAt k0 eq2) wd_3_90 mm_X5_reasonAt ⟨rfl, by decide, by decide, by decide⟩ rfl (by decide) k0 (by decide) rfl rfl (Nat.le_of_ble_eq_true rfl) (by decide) (dk kX5_bestPlace 15 rfl) ?_
      refine g_if_eq C (tgt := 32) (dk kX5_bestPlace 16 rfl) (by decide) (fun c4 => ?_) (fun c4 => ?_)
      · replace h := ite_t h c4
        refine g_aload_n C (i := 0) 0 rfl rfl (dk kX5_bestPlace 18 rfl) ?_
        refine g_iload_n C (i := 2) 2 rfl rfl (dk kX5_bestPlace 19 rfl) ?_
        refine g_iload C (i := 6) 6 rfl (dk kX5_bestPlace 20 rfl) ?_
        obtain ⟨q5, eq5, h⟩ := bd_inv h
        obtain ⟨x7, ex7, h⟩ := lt_inv h
        obtain ⟨μ6, eμ6, h⟩ := lt_inv h
        rw [show q5 = (x7, μ6) from by rw [ex7, eμ6]] at eq5
        refine g_callV C E (rest := []) 2 (ct_X5_unreadableAt k0 eq5) wd_3_155 mm_X5_unreadableAt ⟨rfl, by decide, by decide, by decide⟩ rfl (by decide) k0 (by decide) rfl rfl (Nat.le_of_ble_eq_true rfl) (by decide) (dk kX5_bestPlace 21 rfl) ?_
        refine g_istore C (i := 7) (lv' := [(7, .int x7), (0, .ref (za Z v0)), (1, .int v1), (2, .int v2), (3, .int v3), (4, .int v4), (5, .int v5), (6, .int v6)]) (dk kX5_bestPlace 22 rfl) (by decide) rfl ?_
        refine g_aload_n C (i := 0) 1 rfl rfl (dk kX5_bestPlace 23 rfl) ?_
        refine g_iload_n C (i := 1) 2 rfl rfl (dk kX5_bestPlace 24 rfl) ?_
        refine g_iload_n C (i := 2) 3 rfl rfl (dk kX5_bestPlace 25 rfl) ?_
        refine g_iload C (i := 6) 7 rfl (dk kX5_bestPlace 26 rfl) ?_
        obtain ⟨x9, eq8, h⟩ := bd_inv h
        refine g_callV C E (rest := []) 3 (ct_X5_priceAt k0 eq8) wd_3_108 mm_X5_priceAt ⟨rfl, by decide, by decide, by decide⟩ rfl (by decide) k0 (by decide) rfl rfl (Nat.le_of_ble_eq_true rfl) (by decide) (dk kX5_bestPlace 27 rfl) ?_
        refine g_istore C (i := 8) (lv' := [(8, .int x9), (7, .int x7), (0, .ref (za Z v0)), (1, .int v1), (2, .int v2), (3, .int v3), (4, .int v4), (5, .int v5), (6, .int v6)]) (dk kX5_bestPlace 28 rfl) (by decide) rfl ?_
        refine g_iload_n C (i := 3) 5 rfl rfl (dk kX5_bestPlace 29 rfl) ?_
        refine g_iconst C (v := (-1)) (by decide) (dk kX5_bestPlace 30 rfl) ?_
        refine g_icmp_eq C (tgt := 77) (dk kX5_bestPlace 31 rfl) (by decide) (fun c10 => ?_) (fun c10 => ?_)
        · replace h := ite_t h c10
          refine g_iload C (i := 6) 8 rfl (dk kX5_bestPlace 41 rfl) ?_
          refine g_istore_n C (i := 3) (lv' := [(3, .int v6), (8, .int x9), (7, .int x7), (0, .ref (za Z v0)), (1, .int v1), (2, .int v2), (4, .int v4), (5, .int v5), (6, .int v6)]) (dk kX5_bestPlace 42 rfl) rfl (by decide) rfl ?_
          refine g_iload C (i := 7) 2 rfl (dk kX5_bestPlace 43 rfl) ?_
          refine g_istore C (i := 4) (lv' := [(4, .int x7), (3, .int v6), (8, .int x9), (7, .int x7), (0, .ref (za Z v0)), (1, .int v1), (2, .int v2), (5, .int v5), (6, .int v6)]) (dk kX5_bestPlace 44 rfl) (by decide) rfl ?_
          refine g_iload C (i := 8) 2 rfl (dk kX5_bestPlace 45 rfl) ?_
          refine g_istore C (i := 5) (lv' := [(5, .int x9), (4, .int x7), (3, .int v6), (8, .int x9), (7, .int x7), (0, .ref (za Z v0)), (1, .int v1), (2, .int v2), (6, .int v6)]) (dk kX5_bestPlace 46 rfl) (by decide) rfl ?_
          obtain ⟨x11, ex11, h⟩ := lt_inv h
          refine g_iinc C (i := 6) (v := x11) (lv' := [(6, .int x11), (5, .int x9), (4, .int x7), (3, .int v6), (8, .int x9), (7, .int x7), (0, .ref (za Z v0)), (1, .int v1), (2, .int v2)]) 8 (dk kX5_bestPlace 47 rfl) rfl (by rw [ex11]; rfl) (by decide) rfl ?_
          refine g_goto C (tgt := 11) (dk kX5_bestPlace 48 rfl) (by decide) ?_
          exact g_sub [6, 7, 8, 3, 2, 1, 0] rfl (ih μ6 v6 x7 x9 x11 y h he)
        · replace h := ite_f h c10
          refine g_iload C (i := 7) 1 rfl (dk kX5_bestPlace 32 rfl) ?_
          refine g_iload C (i := 4) 6 rfl (dk kX5_bestPlace 33 rfl) ?_
          refine g_icmp_lt C (tgt := 77) (dk kX5_bestPlace 34 rfl) (by decide) (fun c12 => ?_) (fun c12 => ?_)
          · replace h := ite_t h c12
            refine g_iload C (i := 6) 8 rfl (dk kX5_bestPlace 41 rfl) ?_
            refine g_istore_n C (i := 3) (lv' := [(3, .int v6), (8, .int x9), (7, .int x7), (0, .ref (za Z v0)), (1, .int v1), (2, .int v2), (4, .int v4), (5, .int v5), (6, .int v6)]) (dk kX5_bestPlace 42 rfl) rfl (by decide) rfl ?_
            refine g_iload C (i := 7) 2 rfl (dk kX5_bestPlace 43 rfl) ?_
            refine g_istore C (i := 4) (lv' := [(4, .int x7), (3, .int v6), (8, .int x9), (7, .int x7), (0, .ref (za Z v0)), (1, .int v1), (2, .int v2), (5, .int v5), (6, .int v6)]) (dk kX5_bestPlace 44 rfl) (by decide) rfl ?_
            refine g_iload C (i := 8) 2 rfl (dk kX5_bestPlace 45 rfl) ?_
            refine g_istore C (i := 5) (lv' := [(5, .int x9), (4, .int x7), (3, .int v6), (8, .int x9), (7, .int x7), (0, .ref (za Z v0)), (1, .int v1), (2, .int v2), (6, .int v6)]) (dk kX5_bestPlace 46 rfl) (by decide) rfl ?_
            obtain ⟨x13, ex13, h⟩ := lt_inv h
            refine g_iinc C (i := 6) (v := x13) (lv' := [(6, .int x13), (5, .int x9), (4, .int x7), (3, .int v6), (8, .int x9), (7, .int x7), (0, .ref (za Z v0)), (1, .int v1), (2, .int v2)]) 8 (dk kX5_bestPlace 47 rfl) rfl (by rw [ex13]; rfl) (by decide) rfl ?_
            refine g_goto C (tgt := 11) (dk kX5_bestPlace 48 rfl) (by decide) ?_
            exact g_sub [6, 7, 8, 3, 2, 1, 0] rfl (ih μ6 v6 x7 x9 x13 y h he)
          · replace h := ite_f h c12
            refine g_iload C (i := 7) 1 rfl (dk kX5_bestPlace 35 rfl) ?_
            refine g_iload C (i := 4) 6 rfl (dk kX5_bestPlace 36 rfl) ?_
            refine g_icmp_ne C (tgt := 88) (dk kX5_bestPlace 37 rfl) (by decide) (fun c14 => ?_) (fun c14 => ?_)
            · replace h := ite_f h c14
              obtain ⟨x15, ex15, h⟩ := lt_inv h
              refine g_iinc C (i := 6) (v := x15) (lv' := [(6, .int x15), (8, .int x9), (7, .int x7), (0, .ref (za Z v0)), (1, .int v1), (2, .int v2), (3, .int v3), (4, .int v4), (5, .int v5)]) 8 (dk kX5_bestPlace 47 rfl) rfl (by rw [ex15]; rfl) (by decide) rfl ?_
              refine g_goto C (tgt := 11) (dk kX5_bestPlace 48 rfl) (by decide) ?_
              exact g_sub [3, 4, 5, 6, 7, 8, 0] rfl (ih μ6 v3 v4 v5 x15 y h he)
            · replace h := ite_t h c14
              refine g_iload C (i := 8) 0 rfl (dk kX5_bestPlace 38 rfl) ?_
              refine g_iload C (i := 5) 7 rfl (dk kX5_bestPlace 39 rfl) ?_
              refine g_icmp_ge C (tgt := 88) (dk kX5_bestPlace 40 rfl) (by decide) (fun c16 => ?_) (fun c16 => ?_)
              · replace h := ite_t h c16
                obtain ⟨x17, ex17, h⟩ := lt_inv h
                refine g_iinc C (i := 6) (v := x17) (lv' := [(6, .int x17), (8, .int x9), (7, .int x7), (0, .ref (za Z v0)), (1, .int v1), (2, .int v2), (3, .int v3), (4, .int v4), (5, .int v5)]) 8 (dk kX5_bestPlace 47 rfl) rfl (by rw [ex17]; rfl) (by decide) rfl ?_
                refine g_goto C (tgt := 11) (dk kX5_bestPlace 48 rfl) (by decide) ?_
                exact g_sub [3, 4, 5, 6, 7, 8, 0] rfl (ih μ6 v3 v4 v5 x17 y h he)
              · replace h := ite_f h c16
                refine g_iload C (i := 6) 8 rfl (dk kX5_bestPlace 41 rfl) ?_
                refine g_istore_n C (i := 3) (lv' := [(3, .int v6), (8, .int x9), (7, .int x7), (0, .ref (za Z v0)), (1, .int v1), (2, .int v2), (4, .int v4), (5, .int v5), (6, .int v6)]) (dk kX5_bestPlace 42 rfl) rfl (by decide) rfl ?_
                refine g_iload C (i := 7) 2 rfl (dk kX5_bestPlace 43 rfl) ?_
                refine g_istore C (i := 4) (lv' := [(4, .int x7), (3, .int v6), (8, .int x9), (7, .int x7), (0, .ref (za Z v0)), (1, .int v1), (2, .int v2), (5, .int v5), (6, .int v6)]) (dk kX5_bestPlace 44 rfl) (by decide) rfl ?_
                refine g_iload C (i := 8) 2 rfl (dk kX5_bestPlace 45 rfl) ?_
                refine g_istore C (i := 5) (lv' := [(5, .int x9), (4, .int x7), (3, .int v6), (8, .int x9), (7, .int x7), (0, .ref (za Z v0)), (1, .int v1), (2, .int v2), (6, .int v6)]) (dk kX5_bestPlace 46 rfl) (by decide) rfl ?_
                obtain ⟨x18, ex18, h⟩ := lt_inv h
                refine g_iinc C (i := 6) (v := x18) (lv' := [(6, .int x18), (5, .int x9), (4, .int x7), (3, .int v6), (8, .int x9), (7, .int x7), (0, .ref (za Z v0)), (1, .int v1), (2, .int v2)]) 8 (dk kX5_bestPlace 47 rfl) rfl (by rw [ex18]; rfl) (by decide) rfl ?_
                refine g_goto C (tgt := 11) (dk kX5_bestPlace 48 rfl) (by decide) ?_
                exact g_sub [6, 7, 8, 3, 2, 1, 0] rfl (ih μ6 v6 x7 x9 x18 y h he)
      · replace h := ite_f h c4
        refine g_goto C (tgt := 88) (dk kX5_bestPlace 17 rfl) (by decide) ?_
        obtain ⟨x19, ex19, h⟩ := lt_inv h
        refine g_iinc C (i := 6) (v := x19) (lv' := [(6, .int x19), (0, .ref (za Z v0)), (1, .int v1), (2, .int v2), (3, .int v3), (4, .int v4), (5, .int v5)]) 6 (dk kX5_bestPlace 47 rfl) rfl (by rw [ex19]; rfl) (by decide) rfl ?_
        refine g_goto C (tgt := 11) (dk kX5_bestPlace 48 rfl) (by decide) ?_
        exact g_sub [1, 2, 3, 4, 5, 6, 0] rfl (ih μ v3 v4 v5 x19 y h he)
set_option maxRecDepth 100000 in
set_option maxHeartbeats 4000000 in
theorem t_X5_bestPlace {l : Launch} {Z : ZZ} {X : XX} (μ : Mm) (a0 : Nat) (a1 : Int32) (a2 : Int32) (r : Int32) (μ' : Mm) (k0 : (zk Z a0).1 = 4) (h : f_X5_bestPlace (zk Z) μ a0 a1 a2 = some (r, μ')) (C : Cx l Z false X cX5_bestPlace RX5 9 (some .int)) (E : Ex Z X 3 0 0 (some (.int r)) Z μ') : G Z X 9 0 0 0 [(0, .ref (za Z a0)), (1, .int a1), (2, .int a2)] [] μ := by
  unfold f_X5_bestPlace at h
  refine g_iconst C (v := (-1)) (by decide) (dk kX5_bestPlace 0 rfl) ?_
  refine g_istore_n C (i := 3) (lv' := [(3, .int (-1)), (0, .ref (za Z a0)), (1, .int a1), (2, .int a2)]) (dk kX5_bestPlace 1 rfl) rfl (by decide) rfl ?_
  refine g_iconst C (v := 0) (by decide) (dk kX5_bestPlace 2 rfl) ?_
  refine g_istore C (i := 4) (lv' := [(4, .int 0), (3, .int (-1)), (0, .ref (za Z a0)), (1, .int a1), (2, .int a2)]) (dk kX5_bestPlace 3 rfl) (by decide) rfl ?_
  refine g_iconst C (v := 0) (by decide) (dk kX5_bestPlace 4 rfl) ?_
  refine g_istore C (i := 5) (lv' := [(5, .int 0), (4, .int 0), (3, .int (-1)), (0, .ref (za Z a0)), (1, .int a1), (2, .int a2)]) (dk kX5_bestPlace 5 rfl) (by decide) rfl ?_
  refine g_iconst C (v := 0) (by decide) (dk kX5_bestPlace 6 rfl) ?_
  refine g_istore C (i := 6) (lv' := [(6, .int 0), (5, .int 0), (4, .int 0), (3, .int (-1)), (0, .ref (za Z a0)), (1, .int a1), (2, .int a2)]) (dk kX5_bestPlace 7 rfl) (by decide) rfl ?_
  obtain ⟨q20, eq20, h⟩ := bd_inv h
  refine g_sub [4, 5, 6, 3, 2, 1, 0] (lv' := [(0, .ref (za Z a0)), (1, .int a1), (2, .int a2), (3, .int (-1)), (4, .int 0), (5, .int 0), (6, .int 0)]) rfl ?_
  refine gl_X5_bestPlace_11 a0 a1 a2 k0 C E.2 FU μ (-1) 0 0 0 _ eq20 ?_
  obtain ⟨x21, ex21, h⟩ := lt_inv h
  obtain ⟨μ22, eμ22, h⟩ := lt_inv h
  rw [← ex21, ← eμ22]
  refine g_iload_n C (i := 3) 0 rfl rfl (dk kX5_bestPlace 49 rfl) ?_
  obtain ⟨h8, h9⟩ := Prod.mk.inj (Option.some.inj h)
  subst h8
  subst h9
  exact g_iret C E rfl rfl (Nat.le_refl 0) (Nat.le_refl 0) (dk kX5_bestPlace 50 rfl)
theorem ct_X5_bestPlace {l : Launch} {Z : ZZ} {μ : Mm} {a0 : Nat} {a1 : Int32} {a2 : Int32} {r : Int32} {μ' : Mm} (k0 : (zk Z a0).1 = 4) (h : f_X5_bestPlace (zk Z) μ a0 a1 a2 = some (r, μ')) : CtM l Z false yX5_bestPlace cX5_bestPlace 9 (some .int) 3 0 0 [.ref (za Z a0), .int a1, .int a2] μ (some (.int r)) Z μ' := ct_of rfl rfl (Nat.le_of_ble_eq_true rfl) (fun X C E => t_X5_bestPlace μ a0 a1 a2 r μ' k0 h C E)

def qX5_book : List (Nat × Instr × Nat) := [(0, .aload_n 1, 1), (1, .dup, 1), (2, .getfield 156, 3), (5, .iload_n 3, 1), (6, .iadd, 1), (7, .putfield 156, 3), (10, .aload_n 1, 1), (11, .dup, 1), (12, .getfield 159, 3), (15, .iconst 1, 1), (16, .iadd, 1), (17, .putfield 159, 3), (20, .aload_n 2, 1), (21, .dup, 1), (22, .getfield 162, 3), (25, .iconst 1, 1), (26, .iadd, 1), (27, .putfield 162, 3), (30, .iload 4, 2), (32, .ifCond .eq 33, 3), (35, .aload_n 1, 1), (36, .dup, 1), (37, .getfield 163, 3), (40, .iload_n 3, 1), (41, .iadd, 1), (42, .putfield 163, 3), (45, .aload_n 1, 1), (46, .dup, 1), (47, .getfield 166, 3), (50, .iconst 1, 1), (51, .iadd, 1), (52, .putfield 166, 3), (55, .aload_n 2, 1), (56, .dup, 1), (57, .getfield 169, 3), (60, .iconst 1, 1), (61, .iadd, 1), (62, .putfield 169, 3), (65, .return_, 1)]
theorem kX5_book : ∀ q ∈ qX5_book, decode cX5_book q.1 = .ok q.2 := by decide +kernel
def f_X5_book (K : Nat → Nat × Nat) (μ : Mm) (a0 : Nat) (a1 : Nat) (a2 : Nat) (a3 : Int32) (a4 : Int32) : Option (Mm) :=
  lt1 (sI μ a1 2 ((μ.1 a1 2) + a3)) fun μ1 => lt1 (sI μ1 a1 4 ((μ1.1 a1 4) + 1)) fun μ2 => lt1 (sI μ2 a2 2 ((μ2.1 a2 2) + 1)) fun μ3 => if a4 = 0 then (some (μ3)) else (lt1 (sI μ3 a1 3 ((μ3.1 a1 3) + a3)) fun μ5 => lt1 (sI μ5 a1 5 ((μ5.1 a1 5) + 1)) fun μ6 => lt1 (sI μ6 a2 3 ((μ6.1 a2 3) + 1)) fun μ7 => some (μ7))
set_option maxRecDepth 100000 in
set_option maxHeartbeats 4000000 in
theorem t_X5_book {l : Launch} {Z : ZZ} {X : XX} (μ : Mm) (a0 : Nat) (a1 : Nat) (a2 : Nat) (a3 : Int32) (a4 : Int32) (μ' : Mm) (k0 : (zk Z a0).1 = 4) (k1 : (zk Z a1).1 = 1) (k2 : (zk Z a2).1 = 3) (h : f_X5_book (zk Z) μ a0 a1 a2 a3 a4 = some μ') (C : Cx l Z false X cX5_book RX5 5 none) (E : Ex Z X 0 0 0 none Z μ') : G Z X 5 0 0 0 [(0, .ref (za Z a0)), (1, .ref (za Z a1)), (2, .ref (za Z a2)), (3, .int a3), (4, .int a4)] [] μ := by
  unfold f_X5_book at h
  refine g_aload_n C (i := 1) 1 rfl rfl (dk kX5_book 0 rfl) ?_
  refine g_dup C rfl (dk kX5_book 1 rfl) ?_
  refine gIN_1_2 C k1 (nf_18 C) (dk kX5_book 2 rfl) ?_
  refine g_iload_n C (i := 3) 3 rfl rfl (dk kX5_book 3 rfl) ?_
  refine g_iadd C (dk kX5_book 4 rfl) ?_
  obtain ⟨μ1, eμ1, h⟩ := lt_inv h
  refine pIN_1_2 C k1 (nf_18 C) eμ1 (dk kX5_book 5 rfl) ?_
  refine g_aload_n C (i := 1) 1 rfl rfl (dk kX5_book 6 rfl) ?_
  refine g_dup C rfl (dk kX5_book 7 rfl) ?_
  refine gIN_1_4 C k1 (nf_20 C) (dk kX5_book 8 rfl) ?_
  refine g_iconst C (v := 1) (by decide) (dk kX5_book 9 rfl) ?_
  refine g_iadd C (dk kX5_book 10 rfl) ?_
  obtain ⟨μ2, eμ2, h⟩ := lt_inv h
  refine pIN_1_4 C k1 (nf_20 C) eμ2 (dk kX5_book 11 rfl) ?_
  refine g_aload_n C (i := 2) 2 rfl rfl (dk kX5_book 12 rfl) ?_
  refine g_dup C rfl (dk kX5_book 13 rfl) ?_
  refine gIN_3_2 C k2 (nf_11 C) (dk kX5_book 14 rfl) ?_
  refine g_iconst C (v := 1) (by decide) (dk kX5_book 15 rfl) ?_
  refine g_iadd C (dk kX5_book 16 rfl) ?_
  obtain ⟨μ3, eμ3, h⟩ := lt_inv h
  refine pIN_3_2 C k2 (nf_11 C) eμ3 (dk kX5_book 17 rfl) ?_
  refine g_iload C (i := 4) 4 rfl (dk kX5_book 18 rfl) ?_
  refine g_if_eq C (tgt := 65) (dk kX5_book 19 rfl) (by decide) (fun c4 => ?_) (fun c4 => ?_)
  · replace h := ite_t h c4
    have h9 := Option.some.inj h
    subst h9
    exact g_vret C E (Nat.le_refl 0) (Nat.le_refl 0) (dk kX5_book 38 rfl)
  · replace h := ite_f h c4
    refine g_aload_n C (i := 1) 1 rfl rfl (dk kX5_book 20 rfl) ?_
    refine g_dup C rfl (dk kX5_book 21 rfl) ?_
    refine gIN_1_3 C k1 (nf_19 C) (dk kX5_book 22 rfl) ?_
    refine g_iload_n C (i := 3) 3 rfl rfl (dk kX5_book 23 rfl) ?_
    refine g_iadd C (dk kX5_book 24 rfl) ?_
    obtain ⟨μ5, eμ5, h⟩ := lt_inv h
    refine pIN_1_3 C k1 (nf_19 C) eμ5 (dk kX5_book 25 rfl) ?_
    refine g_aload_n C (i := 1) 1 rfl rfl (dk kX5_book 26 rfl) ?_
    refine g_dup C rfl (dk kX5_book 27 rfl) ?_
    refine gIN_1_5 C k1 (nf_21 C) (dk kX5_book 28 rfl) ?_
    refine g_iconst C (v := 1) (by decide) (dk kX5_book 29 rfl) ?_
    refine g_iadd C (dk kX5_book 30 rfl) ?_
    obtain ⟨μ6, eμ6, h⟩ := lt_inv h
    refine pIN_1_5 C k1 (nf_21 C) eμ6 (dk kX5_book 31 rfl) ?_
    refine g_aload_n C (i := 2) 2 rfl rfl (dk kX5_book 32 rfl) ?_
    refine g_dup C rfl (dk kX5_book 33 rfl) ?_
    refine gIN_3_3 C k2 (nf_12 C) (dk kX5_book 34 rfl) ?_
    refine g_iconst C (v := 1) (by decide) (dk kX5_book 35 rfl) ?_
    refine g_iadd C (dk kX5_book 36 rfl) ?_
    obtain ⟨μ7, eμ7, h⟩ := lt_inv h
    refine pIN_3_3 C k2 (nf_12 C) eμ7 (dk kX5_book 37 rfl) ?_
    have h9 := Option.some.inj h
    subst h9
    exact g_vret C E (Nat.le_refl 0) (Nat.le_refl 0) (dk kX5_book 38 rfl)
theorem ct_X5_book {l : Launch} {Z : ZZ} {μ : Mm} {a0 : Nat} {a1 : Nat} {a2 : Nat} {a3 : Int32} {a4 : Int32} {μ' : Mm} (k0 : (zk Z a0).1 = 4) (k1 : (zk Z a1).1 = 1) (k2 : (zk Z a2).1 = 3) (h : f_X5_book (zk Z) μ a0 a1 a2 a3 a4 = some μ') : CtM l Z false yX5_book cX5_book 5 none 0 0 0 [.ref (za Z a0), .ref (za Z a1), .ref (za Z a2), .int a3, .int a4] μ none Z μ' := ct_of rfl rfl (Nat.le_of_ble_eq_true rfl) (fun X C E => t_X5_book μ a0 a1 a2 a3 a4 μ' k0 k1 k2 h C E)

def qX5_changeRow : List (Nat × Instr × Nat) := [(0, .aload_n 0, 1), (1, .getfield 24, 3), (4, .iload_n 1, 1), (5, .aaload, 1), (6, .getfield 101, 3), (9, .iload_n 2, 1), (10, .iaload, 1), (11, .istore 4, 2), (13, .aload_n 0, 1), (14, .getfield 24, 3), (17, .iload_n 1, 1), (18, .aaload, 1), (19, .getfield 101, 3), (22, .iload_n 2, 1), (23, .iload_n 3, 1), (24, .iastore, 1), (25, .iload 4, 2), (27, .ireturn, 1)]
theorem kX5_changeRow : ∀ q ∈ qX5_changeRow, decode cX5_changeRow q.1 = .ok q.2 := by decide +kernel
def f_X5_changeRow (K : Nat → Nat × Nat) (μ : Mm) (a0 : Nat) (a1 : Int32) (a2 : Int32) (a3 : Int32) : Option (Int32 × Mm) :=
  bd (rf K μ a0 3 10) fun b1 => gd (inb a1 (K b1).2) <| bd (rf K μ b1 (ix a1) 3) fun b3 => bd (rf K μ b3 4 8) fun b4 => gd (inb a2 (K b4).2) <| lt1 (α := Int32) (μ.1 b4 (ix a2)) fun x6 => bd (rf K μ a0 3 10) fun b7 => gd (inb a1 (K b7).2) <| bd (rf K μ b7 (ix a1) 3) fun b9 => bd (rf K μ b9 4 8) fun b10 => gd (inb a2 (K b10).2) <| lt1 (sI μ b10 (ix a2) a3) fun μ12 => some (x6, μ12)
set_option maxRecDepth 100000 in
set_option maxHeartbeats 4000000 in
theorem t_X5_changeRow {l : Launch} {Z : ZZ} {X : XX} (μ : Mm) (a0 : Nat) (a1 : Int32) (a2 : Int32) (a3 : Int32) (r : Int32) (μ' : Mm) (k0 : (zk Z a0).1 = 4) (h : f_X5_changeRow (zk Z) μ a0 a1 a2 a3 = some (r, μ')) (C : Cx l Z false X cX5_changeRow RX5 5 (some .int)) (E : Ex Z X 0 0 0 (some (.int r)) Z μ') : G Z X 5 0 0 0 [(0, .ref (za Z a0)), (1, .int a1), (2, .int a2), (3, .int a3)] [] μ := by
  unfold f_X5_changeRow at h
  refine g_aload_n C (i := 0) 0 rfl rfl (dk kX5_changeRow 0 rfl) ?_
  obtain ⟨b1, eb1, h⟩ := bd_inv h
  obtain ⟨rb1, kb1⟩ := rf_inv eb1
  refine gR_4_3 C k0 (C.w wd_1_163) rb1 (dk kX5_changeRow 1 rfl) ?_
  refine g_iload_n C (i := 1) 1 rfl rfl (dk kX5_changeRow 2 rfl) ?_
  obtain ⟨c2, h⟩ := gd_inv h
  obtain ⟨b3, eb3, h⟩ := bd_inv h
  obtain ⟨rb3, kb3⟩ := rf_inv eb3
  refine gA_10 C kb1 c2 rb3 (dk kX5_changeRow 3 rfl) ?_
  obtain ⟨b4, eb4, h⟩ := bd_inv h
  obtain ⟨rb4, kb4⟩ := rf_inv eb4
  refine gRN_3_4 C kb3 (nf_14 C) rb4 (dk kX5_changeRow 4 rfl) ?_
  refine g_iload_n C (i := 2) 2 rfl rfl (dk kX5_changeRow 5 rfl) ?_
  obtain ⟨c5, h⟩ := gd_inv h
  refine g_iald C kb4 c5 (dk kX5_changeRow 6 rfl) ?_
  obtain ⟨x6, ex6, h⟩ := lt_inv h
  refine g_nmi ex6 ?_
  refine g_istore C (i := 4) (lv' := [(4, .int x6), (0, .ref (za Z a0)), (1, .int a1), (2, .int a2), (3, .int a3)]) (dk kX5_changeRow 7 rfl) (by decide) rfl ?_
  refine g_aload_n C (i := 0) 1 rfl rfl (dk kX5_changeRow 8 rfl) ?_
  obtain ⟨b7, eb7, h⟩ := bd_inv h
  obtain ⟨rb7, kb7⟩ := rf_inv eb7
  refine gR_4_3 C k0 (C.w wd_1_163) rb7 (dk kX5_changeRow 9 rfl) ?_
  refine g_iload_n C (i := 1) 2 rfl rfl (dk kX5_changeRow 10 rfl) ?_
  obtain ⟨c8, h⟩ := gd_inv h
  obtain ⟨b9, eb9, h⟩ := bd_inv h
  obtain ⟨rb9, kb9⟩ := rf_inv eb9
  refine gA_10 C kb7 c8 rb9 (dk kX5_changeRow 11 rfl) ?_
  obtain ⟨b10, eb10, h⟩ := bd_inv h
  obtain ⟨rb10, kb10⟩ := rf_inv eb10
  refine gRN_3_4 C kb9 (nf_14 C) rb10 (dk kX5_changeRow 12 rfl) ?_
  refine g_iload_n C (i := 2) 3 rfl rfl (dk kX5_changeRow 13 rfl) ?_
  refine g_iload_n C (i := 3) 4 rfl rfl (dk kX5_changeRow 14 rfl) ?_
  obtain ⟨c11, h⟩ := gd_inv h
  obtain ⟨μ12, eμ12, h⟩ := lt_inv h
  refine g_iast C kb10 c11 eμ12 (dk kX5_changeRow 15 rfl) ?_
  refine g_iload C (i := 4) 0 rfl (dk kX5_changeRow 16 rfl) ?_
  obtain ⟨h8, h9⟩ := Prod.mk.inj (Option.some.inj h)
  subst h8
  subst h9
  exact g_iret C E rfl rfl (Nat.le_refl 0) (Nat.le_refl 0) (dk kX5_changeRow 17 rfl)
theorem ct_X5_changeRow {l : Launch} {Z : ZZ} {μ : Mm} {a0 : Nat} {a1 : Int32} {a2 : Int32} {a3 : Int32} {r : Int32} {μ' : Mm} (k0 : (zk Z a0).1 = 4) (h : f_X5_changeRow (zk Z) μ a0 a1 a2 a3 = some (r, μ')) : CtM l Z false yX5_changeRow cX5_changeRow 5 (some .int) 0 0 0 [.ref (za Z a0), .int a1, .int a2, .int a3] μ (some (.int r)) Z μ' := ct_of rfl rfl (Nat.le_of_ble_eq_true rfl) (fun X C E => t_X5_changeRow μ a0 a1 a2 a3 r μ' k0 h C E)

def qX5_changeSetting : List (Nat × Instr × Nat) := [(0, .aload_n 0, 1), (1, .getfield 18, 3), (4, .iload_n 1, 1), (5, .iaload, 1), (6, .istore_n 3, 1), (7, .aload_n 0, 1), (8, .getfield 18, 3), (11, .iload_n 1, 1), (12, .iload_n 2, 1), (13, .iastore, 1), (14, .iload_n 3, 1), (15, .ireturn, 1)]
theorem kX5_changeSetting : ∀ q ∈ qX5_changeSetting, decode cX5_changeSetting q.1 = .ok q.2 := by decide +kernel
def f_X5_changeSetting (K : Nat → Nat × Nat) (μ : Mm) (a0 : Nat) (a1 : Int32) (a2 : Int32) : Option (Int32 × Mm) :=
  bd (rf K μ a0 2 8) fun b1 => gd (inb a1 (K b1).2) <| lt1 (α := Int32) (μ.1 b1 (ix a1)) fun x3 => bd (rf K μ a0 2 8) fun b4 => gd (inb a1 (K b4).2) <| lt1 (sI μ b4 (ix a1) a2) fun μ6 => some (x3, μ6)
set_option maxRecDepth 100000 in
set_option maxHeartbeats 4000000 in
theorem t_X5_changeSetting {l : Launch} {Z : ZZ} {X : XX} (μ : Mm) (a0 : Nat) (a1 : Int32) (a2 : Int32) (r : Int32) (μ' : Mm) (k0 : (zk Z a0).1 = 4) (h : f_X5_changeSetting (zk Z) μ a0 a1 a2 = some (r, μ')) (C : Cx l Z false X cX5_changeSetting RX5 4 (some .int)) (E : Ex Z X 0 0 0 (some (.int r)) Z μ') : G Z X 4 0 0 0 [(0, .ref (za Z a0)), (1, .int a1), (2, .int a2)] [] μ := by
  unfold f_X5_changeSetting at h
  refine g_aload_n C (i := 0) 0 rfl rfl (dk kX5_changeSetting 0 rfl) ?_
  obtain ⟨b1, eb1, h⟩ := bd_inv h
  obtain ⟨rb1, kb1⟩ := rf_inv eb1
  refine gR_4_2 C k0 (C.w wd_1_162) rb1 (dk kX5_changeSetting 1 rfl) ?_
  refine g_iload_n C (i := 1) 1 rfl rfl (dk kX5_changeSetting 2 rfl) ?_
  obtain ⟨c2, h⟩ := gd_inv h
  refine g_iald C kb1 c2 (dk kX5_changeSetting 3 rfl) ?_
  obtain ⟨x3, ex3, h⟩ := lt_inv h
  refine g_nmi ex3 ?_
  refine g_istore_n C (i := 3) (lv' := [(3, .int x3), (0, .ref (za Z a0)), (1, .int a1), (2, .int a2)]) (dk kX5_changeSetting 4 rfl) rfl (by decide) rfl ?_
  refine g_aload_n C (i := 0) 1 rfl rfl (dk kX5_changeSetting 5 rfl) ?_
  obtain ⟨b4, eb4, h⟩ := bd_inv h
  obtain ⟨rb4, kb4⟩ := rf_inv eb4
  refine gR_4_2 C k0 (C.w wd_1_162) rb4 (dk kX5_changeSetting 6 rfl) ?_
  refine g_iload_n C (i := 1) 2 rfl rfl (dk kX5_changeSetting 7 rfl) ?_
  refine g_iload_n C (i := 2) 3 rfl rfl (dk kX5_changeSetting 8 rfl) ?_
  obtain ⟨c5, h⟩ := gd_inv h
  obtain ⟨μ6, eμ6, h⟩ := lt_inv h
  refine g_iast C kb4 c5 eμ6 (dk kX5_changeSetting 9 rfl) ?_
  refine g_iload_n C (i := 3) 0 rfl rfl (dk kX5_changeSetting 10 rfl) ?_
  obtain ⟨h8, h9⟩ := Prod.mk.inj (Option.some.inj h)
  subst h8
  subst h9
  exact g_iret C E rfl rfl (Nat.le_refl 0) (Nat.le_refl 0) (dk kX5_changeSetting 11 rfl)
theorem ct_X5_changeSetting {l : Launch} {Z : ZZ} {μ : Mm} {a0 : Nat} {a1 : Int32} {a2 : Int32} {r : Int32} {μ' : Mm} (k0 : (zk Z a0).1 = 4) (h : f_X5_changeSetting (zk Z) μ a0 a1 a2 = some (r, μ')) : CtM l Z false yX5_changeSetting cX5_changeSetting 4 (some .int) 0 0 0 [.ref (za Z a0), .int a1, .int a2] μ (some (.int r)) Z μ' := ct_of rfl rfl (Nat.le_of_ble_eq_true rfl) (fun X C E => t_X5_changeSetting μ a0 a1 a2 r μ' k0 h C E)

def qX5_renterOf : List (Nat × Instr × Nat) := [(0, .iconst 0, 1), (1, .istore_n 2, 1), (2, .iload_n 2, 1), (3, .aload_n 0, 1), (4, .getfield 62, 3), (7, .if_icmp .ge 25, 3), (10, .aload_n 0, 1), (11, .getfield 30, 3), (14, .iload_n 2, 1), (15, .aaload, 1), (16, .iload_n 1, 1), (17, .iload_n 1, 1), (18, .invokevirtual 209, 3), (21, .ifCond .eq 5, 3), (24, .iload_n 2, 1), (25, .ireturn, 1), (26, .iinc 2 1, 3), (29, .goto (-27), 3), (32, .iconst (-1), 1), (33, .ireturn, 1)]
theorem kX5_renterOf : ∀ q ∈ qX5_renterOf, decode cX5_renterOf q.1 = .ok q.2 := by decide +kernel
def f_X5_renterOf_l2 (K : Nat → Nat × Nat) (μ : Mm) (v0 : Nat) (v1 : Int32) : Nat → Int32 → Option ((Int32) ⊕ (Unit))
  | 0, _ => none
  | n + 1, v2 => if (μ.1 v0 6) ≤ v2 then (some (.inr ())) else (bd (rf K μ v0 5 9) fun b2 => gd (inb v2 (K b2).2) <| bd (rf K μ b2 (ix v2) 1) fun b4 => bd (f_X2_rentsOneOf K μ b4 v1 v1) fun x6 => if x6 = 0 then (lt1 (α := Int32) (v2 + 1) fun x8 => f_X5_renterOf_l2 K μ v0 v1 n x8) else (some (.inl v2)))
def f_X5_renterOf (K : Nat → Nat × Nat) (μ : Mm) (a0 : Nat) (a1 : Int32) : Option (Int32) :=
  bd (f_X5_renterOf_l2 K μ a0 a1 FU 0) fun q9 => (match q9 with | .inl r => some r | .inr q10 => some (-1))
set_option maxRecDepth 100000 in
set_option maxHeartbeats 4000000 in
theorem gl_X5_renterOf_2 {l : Launch} {Z : ZZ} {X : XX} (v0 : Nat) (v1 : Int32) (k0 : (zk Z v0).1 = 4) (μ : Mm) (C : Cx l Z false X cX5_renterOf RX5 3 (some .int)) (E : xR X = rmm 1 0 0) : ∀ (n : Nat) (v2 : Int32) (y : (Int32) ⊕ (Unit)), f_X5_renterOf_l2 (zk Z) μ v0 v1 n v2 = some y → (∀ r, y = .inl r → Ex Z X 1 0 0 (some (.int r)) Z μ) → (∀ y9, y = .inr y9 → G Z X 3 0 0 32 [] [] (μ)) → G Z X 3 0 0 2 [(0, .ref (za Z v0)), (1, .int v1), (2, .int v2)] [] μ := by
  intro n
  induction n with
  | zero => intro v2 y h hr he; unfold f_X5_renterOf_l2 at h; cases h
  | succ n ih =>
    intro v2 y h hr he
    unfold f_X5_renterOf_l2 at h
    refine g_iload_n C (i := 2) 2 rfl rfl (dk kX5_renterOf 2 rfl) ?_
    refine g_aload_n C (i := 0) 0 rfl rfl (dk kX5_renterOf 3 rfl) ?_
    refine gI_4_6 C k0 (C.w wd_1_168) (dk kX5_renterOf 4 rfl) ?_
    refine g_icmp_ge C (tgt := 32) (dk kX5_renterOf 5 rfl) (by decide) (fun c1 => ?_) (fun c1 => ?_)
    · replace h := ite_t h c1
      cases h
      exact g_sub [] rfl (he _ rfl)
    · replace h := ite_f h c1
      refine g_aload_n C (i := 0) 0 rfl rfl (dk kX5_renterOf 6 rfl) ?_
      obtain ⟨b2, eb2, h⟩ := bd_inv h
      obtain ⟨rb2, kb2⟩ := rf_inv eb2
      refine gR_4_5 C k0 (C.w wd_1_166) rb2 (dk kX5_renterOf 7 rfl) ?_
      refine g_iload_n C (i := 2) 2 rfl rfl (dk kX5_renterOf 8 rfl) ?_
      obtain ⟨c3, h⟩ := gd_inv h
      obtain ⟨b4, eb4, h⟩ := bd_inv h
      obtain ⟨rb4, kb4⟩ := rf_inv eb4
      refine gA_9 C kb2 c3 rb4 (dk kX5_renterOf 9 rfl) ?_
      refine g_iload_n C (i := 1) 1 rfl rfl (dk kX5_renterOf 10 rfl) ?_
      refine g_iload_n C (i := 1) 1 rfl rfl (dk kX5_renterOf 11 rfl) ?_
      obtain ⟨x6, eq5, h⟩ := bd_inv h
      refine g_callV C E (rest := []) 2 (ct_X2_rentsOneOf kb4 eq5) wd_3_54 mm_X2_rentsOneOf ⟨rfl, by decide, by decide, by decide⟩ rfl (by decide) kb4 (by decide) rfl rfl (Nat.le_of_ble_eq_true rfl) (by decide) (dk kX5_renterOf 12 rfl) ?_
      refine g_if_eq C (tgt := 26) (dk kX5_renterOf 13 rfl) (by decide) (fun c7 => ?_) (fun c7 => ?_)
      · replace h := ite_t h c7
        obtain ⟨x8, ex8, h⟩ := lt_inv h
        refine g_iinc C (i := 2) (v := x8) (lv' := [(2, .int x8), (0, .ref (za Z v0)), (1, .int v1)]) 2 (dk kX5_renterOf 16 rfl) rfl (by rw [ex8]; rfl) (by decide) rfl ?_
        refine g_goto C (tgt := 2) (dk kX5_renterOf 17 rfl) (by decide) ?_
        exact g_sub [1, 2, 0] rfl (ih x8 y h hr he)
      · replace h := ite_f h c7
        refine g_iload_n C (i := 2) 2 rfl rfl (dk kX5_renterOf 14 rfl) ?_
        cases h
        have E := hr _ rfl
        exact g_iret C E rfl rfl (Nat.le_refl 0) (Nat.le_refl 0) (dk kX5_renterOf 15 rfl)
set_option maxRecDepth 100000 in
set_option maxHeartbeats 4000000 in
theorem t_X5_renterOf {l : Launch} {Z : ZZ} {X : XX} (μ : Mm) (a0 : Nat) (a1 : Int32) (r : Int32) (k0 : (zk Z a0).1 = 4) (h : f_X5_renterOf (zk Z) μ a0 a1 = some r) (C : Cx l Z false X cX5_renterOf RX5 3 (some .int)) (E : Ex Z X 1 0 0 (some (.int r)) Z μ) : G Z X 3 0 0 0 [(0, .ref (za Z a0)), (1, .int a1)] [] μ := by
  unfold f_X5_renterOf at h
  refine g_iconst C (v := 0) (by decide) (dk kX5_renterOf 0 rfl) ?_
  refine g_istore_n C (i := 2) (lv' := [(2, .int 0), (0, .ref (za Z a0)), (1, .int a1)]) (dk kX5_renterOf 1 rfl) rfl (by decide) rfl ?_
  obtain ⟨q9, eq9, h⟩ := bd_inv h
  refine g_sub [1, 2, 0] (lv' := [(0, .ref (za Z a0)), (1, .int a1), (2, .int 0)]) rfl ?_
  cases q9 with
  | inl r =>
    cases h
    exact gl_X5_renterOf_2 a0 a1 k0 μ C E.2 FU 0 _ eq9 (fun r hr9 => by cases hr9; exact E) (fun y hy9 => by cases hy9)
  | inr q10 =>
    refine gl_X5_renterOf_2 a0 a1 k0 μ C E.2 FU 0 _ eq9 (fun r hr9 => by cases hr9) (fun y hy9 => ?_)
    cases hy9
    refine g_iconst C (v := (-1)) (by decide) (dk kX5_renterOf 18 rfl) ?_
    have h9 := Option.some.inj h
    subst h9
    exact g_iret C E rfl rfl (Nat.le_refl 0) (Nat.le_refl 0) (dk kX5_renterOf 19 rfl)
theorem ct_X5_renterOf {l : Launch} {Z : ZZ} {μ : Mm} {a0 : Nat} {a1 : Int32} {r : Int32} (k0 : (zk Z a0).1 = 4) (h : f_X5_renterOf (zk Z) μ a0 a1 = some r) : CtM l Z false yX5_renterOf cX5_renterOf 3 (some .int) 1 0 0 [.ref (za Z a0), .int a1] μ (some (.int r)) Z μ := ct_of rfl rfl (Nat.le_of_ble_eq_true rfl) (fun X C E => t_X5_renterOf μ a0 a1 r k0 h C E)

def qX5_dotValue : List (Nat × Instr × Nat) := [(0, .iload_n 2, 1), (1, .tableswitch 67 0 3 #[31, 41, 51, 57], 31), (32, .aload_n 0, 1), (33, .getfield 12, 3), (36, .getfield 180, 3), (39, .iload_n 1, 1), (40, .iaload, 1), (41, .ireturn, 1), (42, .aload_n 0, 1), (43, .getfield 12, 3), (46, .getfield 107, 3), (49, .iload_n 1, 1), (50, .iaload, 1), (51, .ireturn, 1), (52, .aload_n 0, 1), (53, .iload_n 1, 1), (54, .invokevirtual 183, 3), (57, .ireturn, 1), (58, .aload_n 0, 1), (59, .getfield 12, 3), (62, .getfield 187, 3), (65, .iload_n 1, 1), (66, .iaload, 1), (67, .ireturn, 1), (68, .aload_n 0, 1), (69, .getfield 12, 3), (72, .iload_n 1, 1), (73, .aload_n 0, 1), (74, .getfield 18, 3), (77, .invokevirtual 190, 3), (80, .ireturn, 1)]
theorem kX5_dotValue : ∀ q ∈ qX5_dotValue, decode cX5_dotValue q.1 = .ok q.2 := by decide +kernel
def f_X5_dotValue (K : Nat → Nat × Nat) (μ : Mm) (a0 : Nat) (a1 : Int32) (a2 : Int32) : Option (Int32) :=
  if a2 = 0 then (bd (rf K μ a0 0 2) fun b2 => bd (rf K μ b2 2 8) fun b3 => gd (inb a1 (K b3).2) <| some (μ.1 b3 (ix a1))) else (if a2 = 1 then (bd (rf K μ a0 0 2) fun b6 => bd (rf K μ b6 3 8) fun b7 => gd (inb a1 (K b7).2) <| some (μ.1 b7 (ix a1))) else (if a2 = 2 then (bd (f_X5_renterOf K μ a0 a1) fun x11 => some x11) else (if a2 = 3 then (bd (rf K μ a0 0 2) fun b13 => bd (rf K μ b13 4 8) fun b14 => gd (inb a1 (K b14).2) <| some (μ.1 b14 (ix a1))) else (bd (rf K μ a0 0 2) fun b16 => bd (rf K μ a0 2 8) fun b17 => bd (f_X3_fadeOf K μ b16 a1 b17) fun x19 => some x19))))
set_option maxRecDepth 100000 in
set_option maxHeartbeats 4000000 in
theorem t_X5_dotValue {l : Launch} {Z : ZZ} {X : XX} (μ : Mm) (a0 : Nat) (a1 : Int32) (a2 : Int32) (r : Int32) (k0 : (zk Z a0).1 = 4) (h : f_X5_dotValue (zk Z) μ a0 a1 a2 = some r) (C : Cx l Z false X cX5_dotValue RX5 3 (some .int)) (E : Ex Z X 2 0 0 (some (.int r)) Z μ) : G Z X 3 0 0 0 [(0, .ref (za Z a0)), (1, .int a1), (2, .int a2)] [] μ := by
  unfold f_X5_dotValue at h
  refine g_iload_n C (i := 2) 2 rfl rfl (dk kX5_dotValue 0 rfl) ?_
  by_cases c1 : a2 = 0
  · replace h := ite_t h c1
    refine g_tin C (tgt := 32) (dk kX5_dotValue 1 rfl) (by rw [c1]; decide) (by rw [c1]; decide) (by rw [c1]; rfl) (by decide) ?_
    refine g_aload_n C (i := 0) 0 rfl rfl (dk kX5_dotValue 2 rfl) ?_
    obtain ⟨b2, eb2, h⟩ := bd_inv h
    obtain ⟨rb2, kb2⟩ := rf_inv eb2
    refine gR_4_0 C k0 (C.w wd_1_159) rb2 (dk kX5_dotValue 3 rfl) ?_
    obtain ⟨b3, eb3, h⟩ := bd_inv h
    obtain ⟨rb3, kb3⟩ := rf_inv eb3
    refine gRN_2_2 C kb2 (nf_3 C) rb3 (dk kX5_dotValue 4 rfl) ?_
    refine g_iload_n C (i := 1) 1 rfl rfl (dk kX5_dotValue 5 rfl) ?_
    obtain ⟨c4, h⟩ := gd_inv h
    refine g_iald C kb3 c4 (dk kX5_dotValue 6 rfl) ?_
    have h9 := Option.some.inj h
    subst h9
    exact g_iret C E rfl rfl (Nat.le_refl 0) (Nat.le_refl 0) (dk kX5_dotValue 7 rfl)
  · replace h := ite_f h c1
    by_cases c5 : a2 = 1
    · replace h := ite_t h c5
      refine g_tin C (tgt := 42) (dk kX5_dotValue 1 rfl) (by rw [c5]; decide) (by rw [c5]; decide) (by rw [c5]; rfl) (by decide) ?_
      refine g_aload_n C (i := 0) 0 rfl rfl (dk kX5_dotValue 8 rfl) ?_
      obtain ⟨b6, eb6, h⟩ := bd_inv h
      obtain ⟨rb6, kb6⟩ := rf_inv eb6
      refine gR_4_0 C k0 (C.w wd_1_159) rb6 (dk kX5_dotValue 9 rfl) ?_
      obtain ⟨b7, eb7, h⟩ := bd_inv h
      obtain ⟨rb7, kb7⟩ := rf_inv eb7
      refine gRN_2_3 C kb6 (nf_4 C) rb7 (dk kX5_dotValue 10 rfl) ?_
      refine g_iload_n C (i := 1) 1 rfl rfl (dk kX5_dotValue 11 rfl) ?_
      obtain ⟨c8, h⟩ := gd_inv h
      refine g_iald C kb7 c8 (dk kX5_dotValue 12 rfl) ?_
      have h9 := Option.some.inj h
      subst h9
      exact g_iret C E rfl rfl (Nat.le_refl 0) (Nat.le_refl 0) (dk kX5_dotValue 13 rfl)
    · replace h := ite_f h c5
      by_cases c9 : a2 = 2
      · replace h := ite_t h c9
        refine g_tin C (tgt := 52) (dk kX5_dotValue 1 rfl) (by rw [c9]; decide) (by rw [c9]; decide) (by rw [c9]; rfl) (by decide) ?_
        refine g_aload_n C (i := 0) 0 rfl rfl (dk kX5_dotValue 14 rfl) ?_
        refine g_iload_n C (i := 1) 1 rfl rfl (dk kX5_dotValue 15 rfl) ?_
        obtain ⟨x11, eq10, h⟩ := bd_inv h
        refine g_callV C E.2 (rest := []) 1 (ct_X5_renterOf k0 eq10) wd_3_210 mm_X5_renterOf ⟨rfl, by decide, by decide, by decide⟩ rfl (by decide) k0 (by decide) rfl rfl (Nat.le_of_ble_eq_true rfl) (by decide) (dk kX5_dotValue 16 rfl) ?_
        have h9 := Option.some.inj h
        subst h9
        exact g_iret C E rfl rfl (Nat.le_refl 0) (Nat.le_refl 0) (dk kX5_dotValue 17 rfl)
      · replace h := ite_f h c9
        by_cases c12 : a2 = 3
        · replace h := ite_t h c12
          refine g_tin C (tgt := 58) (dk kX5_dotValue 1 rfl) (by rw [c12]; decide) (by rw [c12]; decide) (by rw [c12]; rfl) (by decide) ?_
          refine g_aload_n C (i := 0) 0 rfl rfl (dk kX5_dotValue 18 rfl) ?_
          obtain ⟨b13, eb13, h⟩ := bd_inv h
          obtain ⟨rb13, kb13⟩ := rf_inv eb13
          refine gR_4_0 C k0 (C.w wd_1_159) rb13 (dk kX5_dotValue 19 rfl) ?_
          obtain ⟨b14, eb14, h⟩ := bd_inv h
          obtain ⟨rb14, kb14⟩ := rf_inv eb14
          refine gRN_2_4 C kb13 (nf_5 C) rb14 (dk kX5_dotValue 20 rfl) ?_
          refine g_iload_n C (i := 1) 1 rfl rfl (dk kX5_dotValue 21 rfl) ?_
          obtain ⟨c15, h⟩ := gd_inv h
          refine g_iald C kb14 c15 (dk kX5_dotValue 22 rfl) ?_
          have h9 := Option.some.inj h
          subst h9
          exact g_iret C E rfl rfl (Nat.le_refl 0) (Nat.le_refl 0) (dk kX5_dotValue 23 rfl)
        · replace h := ite_f h c12
          refine g_tout C (tgt := 68) (dk kX5_dotValue 1 rfl) (by have q0 := lv_neT c1 (a := 0) (by decide); have q1 := lv_neT c5 (a := 1) (by decide); have q2 := lv_neT c9 (a := 2) (by decide); have q3 := lv_neT c12 (a := 3) (by decide); omega) (by decide) ?_
          refine g_aload_n C (i := 0) 0 rfl rfl (dk kX5_dotValue 24 rfl) ?_
          obtain ⟨b16, eb16, h⟩ := bd_inv h
          obtain ⟨rb16, kb16⟩ := rf_inv eb16
          refine gR_4_0 C k0 (C.w wd_1_159) rb16 (dk kX5_dotValue 25 rfl) ?_
          refine g_iload_n C (i := 1) 1 rfl rfl (dk kX5_dotValue 26 rfl) ?_
          refine g_aload_n C (i := 0) 0 rfl rfl (dk kX5_dotValue 27 rfl) ?_
          obtain ⟨b17, eb17, h⟩ := bd_inv h
          obtain ⟨rb17, kb17⟩ := rf_inv eb17
          refine gR_4_2 C k0 (C.w wd_1_162) rb17 (dk kX5_dotValue 28 rfl) ?_
          obtain ⟨x19, eq18, h⟩ := bd_inv h
          refine g_callV C E.2 (rest := []) 2 (ct_X3_fadeOf kb16 kb17 eq18) wd_3_214 mm_X3_fadeOf ⟨rfl, by decide, by decide, by decide⟩ rfl (by decide) kb16 (by decide) rfl rfl (Nat.le_of_ble_eq_true rfl) (by decide) (dk kX5_dotValue 29 rfl) ?_
          have h9 := Option.some.inj h
          subst h9
          exact g_iret C E rfl rfl (Nat.le_refl 0) (Nat.le_refl 0) (dk kX5_dotValue 30 rfl)
theorem ct_X5_dotValue {l : Launch} {Z : ZZ} {μ : Mm} {a0 : Nat} {a1 : Int32} {a2 : Int32} {r : Int32} (k0 : (zk Z a0).1 = 4) (h : f_X5_dotValue (zk Z) μ a0 a1 a2 = some r) : CtM l Z false yX5_dotValue cX5_dotValue 3 (some .int) 2 0 0 [.ref (za Z a0), .int a1, .int a2] μ (some (.int r)) Z μ := ct_of rfl rfl (Nat.le_of_ble_eq_true rfl) (fun X C E => t_X5_dotValue μ a0 a1 a2 r k0 h C E)

def qX5_endLet : List (Nat × Instr × Nat) := [(0, .aload_n 0, 1), (1, .getfield 30, 3), (4, .iload_n 1, 1), (5, .aaload, 1), (6, .invokevirtual 135, 3), (9, .istore_n 2, 1), (10, .aload_n 0, 1), (11, .getfield 30, 3), (14, .iload_n 1, 1), (15, .aaload, 1), (16, .invokevirtual 79, 3), (19, .iload_n 2, 1), (20, .ireturn, 1)]
theorem kX5_endLet : ∀ q ∈ qX5_endLet, decode cX5_endLet q.1 = .ok q.2 := by decide +kernel
def f_X5_endLet (K : Nat → Nat × Nat) (μ : Mm) (a0 : Nat) (a1 : Int32) : Option (Int32 × Mm) :=
  bd (rf K μ a0 5 9) fun b1 => gd (inb a1 (K b1).2) <| bd (rf K μ b1 (ix a1) 1) fun b3 => bd (f_X2_rented K μ b3) fun x5 => bd (rf K μ a0 5 9) fun b6 => gd (inb a1 (K b6).2) <| bd (rf K μ b6 (ix a1) 1) fun b8 => bd (f_X2_rentNothing K μ b8) fun μ10 => some (x5, μ10)
set_option maxRecDepth 100000 in
set_option maxHeartbeats 4000000 in
theorem t_X5_endLet {l : Launch} {Z : ZZ} {X : XX} (μ : Mm) (a0 : Nat) (a1 : Int32) (r : Int32) (μ' : Mm) (k0 : (zk Z a0).1 = 4) (h : f_X5_endLet (zk Z) μ a0 a1 = some (r, μ')) (C : Cx l Z false X cX5_endLet RX5 3 (some .int)) (E : Ex Z X 1 0 0 (some (.int r)) Z μ') : G Z X 3 0 0 0 [(0, .ref (za Z a0)), (1, .int a1)] [] μ := by
  unfold f_X5_endLet at h
  refine g_aload_n C (i := 0) 0 rfl rfl (dk kX5_endLet 0 rfl) ?_
  obtain ⟨b1, eb1, h⟩ := bd_inv h
  obtain ⟨rb1, kb1⟩ := rf_inv eb1
  refine gR_4_5 C k0 (C.w wd_1_166) rb1 (dk kX5_endLet 1 rfl) ?_
  refine g_iload_n C (i := 1) 1 rfl rfl (dk kX5_endLet 2 rfl) ?_
  obtain ⟨c2, h⟩ := gd_inv h
  obtain ⟨b3, eb3, h⟩ := bd_inv h
  obtain ⟨rb3, kb3⟩ := rf_inv eb3
  refine gA_9 C kb1 c2 rb3 (dk kX5_endLet 3 rfl) ?_
  obtain ⟨x5, eq4, h⟩ := bd_inv h
  refine g_callV C E.2 (rest := []) 0 (ct_X2_rented kb3 eq4) wd_3_31 mm_X2_rented ⟨rfl, by decide, by decide, by decide⟩ rfl (by decide) kb3 (by decide) rfl rfl (Nat.le_of_ble_eq_true rfl) (by decide) (dk kX5_endLet 4 rfl) ?_
  refine g_istore_n C (i := 2) (lv' := [(2, .int x5), (0, .ref (za Z a0)), (1, .int a1)]) (dk kX5_endLet 5 rfl) rfl (by decide) rfl ?_
  refine g_aload_n C (i := 0) 1 rfl rfl (dk kX5_endLet 6 rfl) ?_
  obtain ⟨b6, eb6, h⟩ := bd_inv h
  obtain ⟨rb6, kb6⟩ := rf_inv eb6
  refine gR_4_5 C k0 (C.w wd_1_166) rb6 (dk kX5_endLet 7 rfl) ?_
  refine g_iload_n C (i := 1) 2 rfl rfl (dk kX5_endLet 8 rfl) ?_
  obtain ⟨c7, h⟩ := gd_inv h
  obtain ⟨b8, eb8, h⟩ := bd_inv h
  obtain ⟨rb8, kb8⟩ := rf_inv eb8
  refine gA_9 C kb6 c7 rb8 (dk kX5_endLet 9 rfl) ?_
  obtain ⟨μ10, eq9, h⟩ := bd_inv h
  refine g_callV C E.2 (rest := []) 0 (ct_X2_rentNothing kb8 eq9) wd_2_129 mm_X2_rentNothing ⟨rfl, by decide, by decide, by decide⟩ rfl (by decide) kb8 (by decide) rfl rfl (Nat.le_of_ble_eq_true rfl) (by decide) (dk kX5_endLet 10 rfl) ?_
  refine g_iload_n C (i := 2) 0 rfl rfl (dk kX5_endLet 11 rfl) ?_
  obtain ⟨h8, h9⟩ := Prod.mk.inj (Option.some.inj h)
  subst h8
  subst h9
  exact g_iret C E rfl rfl (Nat.le_refl 0) (Nat.le_refl 0) (dk kX5_endLet 12 rfl)
theorem ct_X5_endLet {l : Launch} {Z : ZZ} {μ : Mm} {a0 : Nat} {a1 : Int32} {r : Int32} {μ' : Mm} (k0 : (zk Z a0).1 = 4) (h : f_X5_endLet (zk Z) μ a0 a1 = some (r, μ')) : CtM l Z false yX5_endLet cX5_endLet 3 (some .int) 1 0 0 [.ref (za Z a0), .int a1] μ (some (.int r)) Z μ' := ct_of rfl rfl (Nat.le_of_ble_eq_true rfl) (fun X C E => t_X5_endLet μ a0 a1 r μ' k0 h C E)

def qX5_hasCustomer : List (Nat × Instr × Nat) := [(0, .iload_n 1, 1), (1, .ifCond .lt 15, 3), (4, .iload_n 1, 1), (5, .aload_n 0, 1), (6, .getfield 62, 3), (9, .if_icmp .ge 7, 3), (12, .iconst 1, 1), (13, .goto 4, 3), (16, .iconst 0, 1), (17, .ireturn, 1)]
theorem kX5_hasCustomer : ∀ q ∈ qX5_hasCustomer, decode cX5_hasCustomer q.1 = .ok q.2 := by decide +kernel
def f_X5_hasCustomer (K : Nat → Nat × Nat) (μ : Mm) (a0 : Nat) (a1 : Int32) : Option (Int32) :=
  if a1 < 0 then (some 0) else (lt1 (α := Int32) (if (μ.1 a0 6) ≤ a1 then 0 else 1) fun x2 => gd (x2 = 0 ∨ x2 = 1) <| some x2)
set_option maxRecDepth 100000 in
set_option maxHeartbeats 4000000 in
theorem t_X5_hasCustomer {l : Launch} {Z : ZZ} {X : XX} (μ : Mm) (a0 : Nat) (a1 : Int32) (r : Int32) (k0 : (zk Z a0).1 = 4) (h : f_X5_hasCustomer (zk Z) μ a0 a1 = some r) (C : Cx l Z false X cX5_hasCustomer RX5 2 (some .boolean)) (E : Ex Z X 0 0 0 (some (.int r)) Z μ) : G Z X 2 0 0 0 [(0, .ref (za Z a0)), (1, .int a1)] [] μ := by
  unfold f_X5_hasCustomer at h
  refine g_iload_n C (i := 1) 1 rfl rfl (dk kX5_hasCustomer 0 rfl) ?_
  refine g_if_lt C (tgt := 16) (dk kX5_hasCustomer 1 rfl) (by decide) (fun c1 => ?_) (fun c1 => ?_)
  · replace h := ite_t h c1
    refine g_iconst C (v := 0) (by decide) (dk kX5_hasCustomer 8 rfl) ?_
    have h9 := Option.some.inj h
    subst h9
    exact g_iret C E rfl rfl (Nat.le_refl 0) (Nat.le_refl 0) (dk kX5_hasCustomer 9 rfl)
  · replace h := ite_f h c1
    refine g_iload_n C (i := 1) 1 rfl rfl (dk kX5_hasCustomer 2 rfl) ?_
    refine g_aload_n C (i := 0) 0 rfl rfl (dk kX5_hasCustomer 3 rfl) ?_
    refine gI_4_6 C k0 (C.w wd_1_168) (dk kX5_hasCustomer 4 rfl) ?_
    obtain ⟨x2, ex2, h⟩ := lt_inv h
    have kj3 : G Z X 2 0 0 17 [(0, .ref (za Z a0)), (1, .int a1)] [.int x2] μ := by
      obtain ⟨c4, h⟩ := gd_inv h
      have h9 := Option.some.inj h
      subst h9
      exact g_iret C E rfl (br0 _ c4) (Nat.le_refl 0) (Nat.le_refl 0) (dk kX5_hasCustomer 9 rfl)
    clear h
    refine g_icmp_ge C (tgt := 16) (dk kX5_hasCustomer 5 rfl) (by decide) (fun c5 => ?_) (fun c5 => ?_)
    · refine g_iconst C (v := 0) (by decide) (dk kX5_hasCustomer 8 rfl) ?_
      exact g_nmi (by rw [ex2, if_pos c5]) kj3
    · refine g_iconst C (v := 1) (by decide) (dk kX5_hasCustomer 6 rfl) ?_
      refine g_goto C (tgt := 17) (dk kX5_hasCustomer 7 rfl) (by decide) ?_
      exact g_nmi (by rw [ex2, if_neg c5]) kj3
theorem ct_X5_hasCustomer {l : Launch} {Z : ZZ} {μ : Mm} {a0 : Nat} {a1 : Int32} {r : Int32} (k0 : (zk Z a0).1 = 4) (h : f_X5_hasCustomer (zk Z) μ a0 a1 = some r) : CtM l Z false yX5_hasCustomer cX5_hasCustomer 2 (some .boolean) 0 0 0 [.ref (za Z a0), .int a1] μ (some (.int r)) Z μ := ct_of rfl rfl (Nat.le_of_ble_eq_true rfl) (fun X C E => t_X5_hasCustomer μ a0 a1 r k0 h C E)

def qX5_hasDot : List (Nat × Instr × Nat) := [(0, .iload_n 1, 1), (1, .ifCond .lt 18, 3), (4, .iload_n 1, 1), (5, .aload_n 0, 1), (6, .getfield 12, 3), (9, .getfield 68, 3), (12, .if_icmp .ge 7, 3), (15, .iconst 1, 1), (16, .goto 4, 3), (19, .iconst 0, 1), (20, .ireturn, 1)]
theorem kX5_hasDot : ∀ q ∈ qX5_hasDot, decode cX5_hasDot q.1 = .ok q.2 := by decide +kernel
def f_X5_hasDot (K : Nat → Nat × Nat) (μ : Mm) (a0 : Nat) (a1 : Int32) : Option (Int32) :=
  if a1 < 0 then (some 0) else (bd (rf K μ a0 0 2) fun b2 => lt1 (α := Int32) (if (μ.1 b2 0) ≤ a1 then 0 else 1) fun x3 => gd (x3 = 0 ∨ x3 = 1) <| some x3)
set_option maxRecDepth 100000 in
set_option maxHeartbeats 4000000 in
theorem t_X5_hasDot {l : Launch} {Z : ZZ} {X : XX} (μ : Mm) (a0 : Nat) (a1 : Int32) (r : Int32) (k0 : (zk Z a0).1 = 4) (h : f_X5_hasDot (zk Z) μ a0 a1 = some r) (C : Cx l Z false X cX5_hasDot RX5 2 (some .boolean)) (E : Ex Z X 0 0 0 (some (.int r)) Z μ) : G Z X 2 0 0 0 [(0, .ref (za Z a0)), (1, .int a1)] [] μ := by
  unfold f_X5_hasDot at h
  refine g_iload_n C (i := 1) 1 rfl rfl (dk kX5_hasDot 0 rfl) ?_
  refine g_if_lt C (tgt := 19) (dk kX5_hasDot 1 rfl) (by decide) (fun c1 => ?_) (fun c1 => ?_)
  · replace h := ite_t h c1
    refine g_iconst C (v := 0) (by decide) (dk kX5_hasDot 9 rfl) ?_
    have h9 := Option.some.inj h
    subst h9
    exact g_iret C E rfl rfl (Nat.le_refl 0) (Nat.le_refl 0) (dk kX5_hasDot 10 rfl)
  · replace h := ite_f h c1
    refine g_iload_n C (i := 1) 1 rfl rfl (dk kX5_hasDot 2 rfl) ?_
    refine g_aload_n C (i := 0) 0 rfl rfl (dk kX5_hasDot 3 rfl) ?_
    obtain ⟨b2, eb2, h⟩ := bd_inv h
    obtain ⟨rb2, kb2⟩ := rf_inv eb2
    refine gR_4_0 C k0 (C.w wd_1_159) rb2 (dk kX5_hasDot 4 rfl) ?_
    refine gIN_2_0 C kb2 (nf_1 C) (dk kX5_hasDot 5 rfl) ?_
    obtain ⟨x3, ex3, h⟩ := lt_inv h
    have kj4 : G Z X 2 0 0 20 [(0, .ref (za Z a0)), (1, .int a1)] [.int x3] μ := by
      obtain ⟨c5, h⟩ := gd_inv h
      have h9 := Option.some.inj h
      subst h9
      exact g_iret C E rfl (br0 _ c5) (Nat.le_refl 0) (Nat.le_refl 0) (dk kX5_hasDot 10 rfl)
    clear h
    refine g_icmp_ge C (tgt := 19) (dk kX5_hasDot 6 rfl) (by decide) (fun c6 => ?_) (fun c6 => ?_)
    · refine g_iconst C (v := 0) (by decide) (dk kX5_hasDot 9 rfl) ?_
      exact g_nmi (by rw [ex3, if_pos c6]) kj4
    · refine g_iconst C (v := 1) (by decide) (dk kX5_hasDot 7 rfl) ?_
      refine g_goto C (tgt := 20) (dk kX5_hasDot 8 rfl) (by decide) ?_
      exact g_nmi (by rw [ex3, if_neg c6]) kj4
theorem ct_X5_hasDot {l : Launch} {Z : ZZ} {μ : Mm} {a0 : Nat} {a1 : Int32} {r : Int32} (k0 : (zk Z a0).1 = 4) (h : f_X5_hasDot (zk Z) μ a0 a1 = some r) : CtM l Z false yX5_hasDot cX5_hasDot 2 (some .boolean) 0 0 0 [.ref (za Z a0), .int a1] μ (some (.int r)) Z μ := ct_of rfl rfl (Nat.le_of_ble_eq_true rfl) (fun X C E => t_X5_hasDot μ a0 a1 r k0 h C E)

def qX5_hasLabel : List (Nat × Instr × Nat) := [(0, .iload_n 1, 1), (1, .ifCond .lt 15, 3), (4, .iload_n 1, 1), (5, .aload_n 0, 1), (6, .getfield 55, 3), (9, .if_icmp .ge 7, 3), (12, .iconst 1, 1), (13, .goto 4, 3), (16, .iconst 0, 1), (17, .ireturn, 1)]
theorem kX5_hasLabel : ∀ q ∈ qX5_hasLabel, decode cX5_hasLabel q.1 = .ok q.2 := by decide +kernel
def f_X5_hasLabel (K : Nat → Nat × Nat) (μ : Mm) (a0 : Nat) (a1 : Int32) : Option (Int32) :=
  if a1 < 0 then (some 0) else (lt1 (α := Int32) (if (μ.1 a0 4) ≤ a1 then 0 else 1) fun x2 => gd (x2 = 0 ∨ x2 = 1) <| some x2)
set_option maxRecDepth 100000 in
set_option maxHeartbeats 4000000 in
theorem t_X5_hasLabel {l : Launch} {Z : ZZ} {X : XX} (μ : Mm) (a0 : Nat) (a1 : Int32) (r : Int32) (k0 : (zk Z a0).1 = 4) (h : f_X5_hasLabel (zk Z) μ a0 a1 = some r) (C : Cx l Z false X cX5_hasLabel RX5 2 (some .boolean)) (E : Ex Z X 0 0 0 (some (.int r)) Z μ) : G Z X 2 0 0 0 [(0, .ref (za Z a0)), (1, .int a1)] [] μ := by
  unfold f_X5_hasLabel at h
  refine g_iload_n C (i := 1) 1 rfl rfl (dk kX5_hasLabel 0 rfl) ?_
  refine g_if_lt C (tgt := 16) (dk kX5_hasLabel 1 rfl) (by decide) (fun c1 => ?_) (fun c1 => ?_)
  · replace h := ite_t h c1
    refine g_iconst C (v := 0) (by decide) (dk kX5_hasLabel 8 rfl) ?_
    have h9 := Option.some.inj h
    subst h9
    exact g_iret C E rfl rfl (Nat.le_refl 0) (Nat.le_refl 0) (dk kX5_hasLabel 9 rfl)
  · replace h := ite_f h c1
    refine g_iload_n C (i := 1) 1 rfl rfl (dk kX5_hasLabel 2 rfl) ?_
    refine g_aload_n C (i := 0) 0 rfl rfl (dk kX5_hasLabel 3 rfl) ?_
    refine gI_4_4 C k0 (C.w wd_1_165) (dk kX5_hasLabel 4 rfl) ?_
    obtain ⟨x2, ex2, h⟩ := lt_inv h
    have kj3 : G Z X 2 0 0 17 [(0, .ref (za Z a0)), (1, .int a1)] [.int x2] μ := by
      obtain ⟨c4, h⟩ := gd_inv h
      have h9 := Option.some.inj h
      subst h9
      exact g_iret C E rfl (br0 _ c4) (Nat.le_refl 0) (Nat.le_refl 0) (dk kX5_hasLabel 9 rfl)
    clear h
    refine g_icmp_ge C (tgt := 16) (dk kX5_hasLabel 5 rfl) (by decide) (fun c5 => ?_) (fun c5 => ?_)
    · refine g_iconst C (v := 0) (by decide) (dk kX5_hasLabel 8 rfl) ?_
      exact g_nmi (by rw [ex2, if_pos c5]) kj3
    · refine g_iconst C (v := 1) (by decide) (dk kX5_hasLabel 6 rfl) ?_
      refine g_goto C (tgt := 17) (dk kX5_hasLabel 7 rfl) (by decide) ?_
      exact g_nmi (by rw [ex2, if_neg c5]) kj3
theorem ct_X5_hasLabel {l : Launch} {Z : ZZ} {μ : Mm} {a0 : Nat} {a1 : Int32} {r : Int32} (k0 : (zk Z a0).1 = 4) (h : f_X5_hasLabel (zk Z) μ a0 a1 = some r) : CtM l Z false yX5_hasLabel cX5_hasLabel 2 (some .boolean) 0 0 0 [.ref (za Z a0), .int a1] μ (some (.int r)) Z μ := ct_of rfl rfl (Nat.le_of_ble_eq_true rfl) (fun X C E => t_X5_hasLabel μ a0 a1 r k0 h C E)

def qX5_let : List (Nat × Instr × Nat) := [(0, .aload_n 0, 1), (1, .getfield 30, 3), (4, .iload_n 1, 1), (5, .aaload, 1), (6, .iload_n 2, 1), (7, .putfield 126, 3), (10, .aload_n 0, 1), (11, .getfield 30, 3), (14, .iload_n 1, 1), (15, .aaload, 1), (16, .iload_n 3, 1), (17, .putfield 129, 3), (20, .aload_n 0, 1), (21, .invokevirtual 132, 3), (24, .ireturn, 1)]
theorem kX5_let : ∀ q ∈ qX5_let, decode cX5_let q.1 = .ok q.2 := by decide +kernel
def f_X5_let (K : Nat → Nat × Nat) (μ : Mm) (a0 : Nat) (a1 : Int32) (a2 : Int32) (a3 : Int32) : Option (Int32 × Mm) :=
  bd (rf K μ a0 5 9) fun b1 => gd (inb a1 (K b1).2) <| bd (rf K μ b1 (ix a1) 1) fun b3 => lt1 (sI μ b3 0 a2) fun μ4 => bd (rf K μ4 a0 5 9) fun b5 => gd (inb a1 (K b5).2) <| bd (rf K μ4 b5 (ix a1) 1) fun b7 => lt1 (sI μ4 b7 1 a3) fun μ8 => bd (f_X5_allRented K μ8 a0) fun x10 => some (x10, μ8)
set_option maxRecDepth 100000 in
set_option maxHeartbeats 4000000 in
theorem t_X5_let {l : Launch} {Z : ZZ} {X : XX} (μ : Mm) (a0 : Nat) (a1 : Int32) (a2 : Int32) (a3 : Int32) (r : Int32) (μ' : Mm) (k0 : (zk Z a0).1 = 4) (h : f_X5_let (zk Z) μ a0 a1 a2 a3 = some (r, μ')) (C : Cx l Z false X cX5_let RX5 4 (some .int)) (E : Ex Z X 2 0 0 (some (.int r)) Z μ') : G Z X 4 0 0 0 [(0, .ref (za Z a0)), (1, .int a1), (2, .int a2), (3, .int a3)] [] μ := by
  unfold f_X5_let at h
  refine g_aload_n C (i := 0) 0 rfl rfl (dk kX5_let 0 rfl) ?_
  obtain ⟨b1, eb1, h⟩ := bd_inv h
  obtain ⟨rb1, kb1⟩ := rf_inv eb1
  refine gR_4_5 C k0 (C.w wd_1_166) rb1 (dk kX5_let 1 rfl) ?_
  refine g_iload_n C (i := 1) 1 rfl rfl (dk kX5_let 2 rfl) ?_
  obtain ⟨c2, h⟩ := gd_inv h
  obtain ⟨b3, eb3, h⟩ := bd_inv h
  obtain ⟨rb3, kb3⟩ := rf_inv eb3
  refine gA_9 C kb1 c2 rb3 (dk kX5_let 3 rfl) ?_
  refine g_iload_n C (i := 2) 2 rfl rfl (dk kX5_let 4 rfl) ?_
  obtain ⟨μ4, eμ4, h⟩ := lt_inv h
  refine pIN_1_0 C kb3 (nf_16 C) eμ4 (dk kX5_let 5 rfl) ?_
  refine g_aload_n C (i := 0) 0 rfl rfl (dk kX5_let 6 rfl) ?_
  obtain ⟨b5, eb5, h⟩ := bd_inv h
  obtain ⟨rb5, kb5⟩ := rf_inv eb5
  refine gR_4_5 C k0 (C.w wd_1_166) rb5 (dk kX5_let 7 rfl) ?_
  refine g_iload_n C (i := 1) 1 rfl rfl (dk kX5_let 8 rfl) ?_
  obtain ⟨c6, h⟩ := gd_inv h
  obtain ⟨b7, eb7, h⟩ := bd_inv h
  obtain ⟨rb7, kb7⟩ := rf_inv eb7
  refine gA_9 C kb5 c6 rb7 (dk kX5_let 9 rfl) ?_
  refine g_iload_n C (i := 3) 3 rfl rfl (dk kX5_let 10 rfl) ?_
  obtain ⟨μ8, eμ8, h⟩ := lt_inv h
  refine pIN_1_1 C kb7 (nf_17 C) eμ8 (dk kX5_let 11 rfl) ?_
  refine g_aload_n C (i := 0) 0 rfl rfl (dk kX5_let 12 rfl) ?_
  obtain ⟨x10, eq9, h⟩ := bd_inv h
  refine g_callV C E.2 (rest := []) 0 (ct_X5_allRented k0 eq9) wd_3_62 mm_X5_allRented ⟨rfl, by decide, by decide, by decide⟩ rfl (by decide) k0 (by decide) rfl rfl (Nat.le_of_ble_eq_true rfl) (by decide) (dk kX5_let 13 rfl) ?_
  obtain ⟨h8, h9⟩ := Prod.mk.inj (Option.some.inj h)
  subst h8
  subst h9
  exact g_iret C E rfl rfl (Nat.le_refl 0) (Nat.le_refl 0) (dk kX5_let 14 rfl)
theorem ct_X5_let {l : Launch} {Z : ZZ} {μ : Mm} {a0 : Nat} {a1 : Int32} {a2 : Int32} {a3 : Int32} {r : Int32} {μ' : Mm} (k0 : (zk Z a0).1 = 4) (h : f_X5_let (zk Z) μ a0 a1 a2 a3 = some (r, μ')) : CtM l Z false yX5_let cX5_let 4 (some .int) 2 0 0 [.ref (za Z a0), .int a1, .int a2, .int a3] μ (some (.int r)) Z μ' := ct_of rfl rfl (Nat.le_of_ble_eq_true rfl) (fun X C E => t_X5_let μ a0 a1 a2 a3 r μ' k0 h C E)

def qX5_newCustomer : List (Nat × Instr × Nat) := [(0, .aload_n 0, 1), (1, .dup, 1), (2, .getfield 62, 3), (5, .iconst 1, 1), (6, .iadd, 1), (7, .putfield 62, 3), (10, .aload_n 0, 1), (11, .getfield 62, 3), (14, .iconst 1, 1), (15, .isub, 1), (16, .ireturn, 1)]
theorem kX5_newCustomer : ∀ q ∈ qX5_newCustomer, decode cX5_newCustomer q.1 = .ok q.2 := by decide +kernel
def f_X5_newCustomer (K : Nat → Nat × Nat) (μ : Mm) (a0 : Nat) : Option (Int32 × Mm) :=
  lt1 (sI μ a0 6 ((μ.1 a0 6) + 1)) fun μ1 => some (((μ1.1 a0 6) - 1), μ1)
set_option maxRecDepth 100000 in
set_option maxHeartbeats 4000000 in
theorem t_X5_newCustomer {l : Launch} {Z : ZZ} {X : XX} (μ : Mm) (a0 : Nat) (r : Int32) (μ' : Mm) (k0 : (zk Z a0).1 = 4) (h : f_X5_newCustomer (zk Z) μ a0 = some (r, μ')) (C : Cx l Z false X cX5_newCustomer RX5 1 (some .int)) (E : Ex Z X 0 0 0 (some (.int r)) Z μ') : G Z X 1 0 0 0 [(0, .ref (za Z a0))] [] μ := by
  unfold f_X5_newCustomer at h
  refine g_aload_n C (i := 0) 0 rfl rfl (dk kX5_newCustomer 0 rfl) ?_
  refine g_dup C rfl (dk kX5_newCustomer 1 rfl) ?_
  refine gI_4_6 C k0 (C.w wd_1_168) (dk kX5_newCustomer 2 rfl) ?_
  refine g_iconst C (v := 1) (by decide) (dk kX5_newCustomer 3 rfl) ?_
  refine g_iadd C (dk kX5_newCustomer 4 rfl) ?_
  obtain ⟨μ1, eμ1, h⟩ := lt_inv h
  refine pI_4_6 C k0 (C.w wd_1_168) eμ1 (dk kX5_newCustomer 5 rfl) ?_
  refine g_aload_n C (i := 0) 0 rfl rfl (dk kX5_newCustomer 6 rfl) ?_
  refine gI_4_6 C k0 (C.w wd_1_168) (dk kX5_newCustomer 7 rfl) ?_
  refine g_iconst C (v := 1) (by decide) (dk kX5_newCustomer 8 rfl) ?_
  refine g_isub C (dk kX5_newCustomer 9 rfl) ?_
  obtain ⟨h8, h9⟩ := Prod.mk.inj (Option.some.inj h)
  subst h8
  subst h9
  exact g_iret C E rfl rfl (Nat.le_refl 0) (Nat.le_refl 0) (dk kX5_newCustomer 10 rfl)
theorem ct_X5_newCustomer {l : Launch} {Z : ZZ} {μ : Mm} {a0 : Nat} {r : Int32} {μ' : Mm} (k0 : (zk Z a0).1 = 4) (h : f_X5_newCustomer (zk Z) μ a0 = some (r, μ')) : CtM l Z false yX5_newCustomer cX5_newCustomer 1 (some .int) 0 0 0 [.ref (za Z a0)] μ (some (.int r)) Z μ' := ct_of rfl rfl (Nat.le_of_ble_eq_true rfl) (fun X C E => t_X5_newCustomer μ a0 r μ' k0 h C E)

def qX5_newDot : List (Nat × Instr × Nat) := [(0, .aload_n 0, 1), (1, .getfield 12, 3), (4, .getfield 107, 3), (7, .iload_n 1, 1), (8, .iaload, 1), (9, .istore_n 2, 1), (10, .aload_n 0, 1), (11, .getfield 12, 3), (14, .iload_n 1, 1), (15, .invokevirtual 110, 3), (18, .iload_n 2, 1), (19, .ireturn, 1)]
theorem kX5_newDot : ∀ q ∈ qX5_newDot, decode cX5_newDot q.1 = .ok q.2 := by decide +kernel
def f_X5_newDot (K : Nat → Nat × Nat) (μ : Mm) (a0 : Nat) (a1 : Int32) : Option (Int32 × Mm) :=
  bd (rf K μ a0 0 2) fun b1 => bd (rf K μ b1 3 8) fun b2 => gd (inb a1 (K b2).2) <| lt1 (α := Int32) (μ.1 b2 (ix a1)) fun x4 => bd (rf K μ a0 0 2) fun b5 => bd (f_X3_renew K μ b5 a1) fun μ7 => some (x4, μ7)
set_option maxRecDepth 100000 in
set_option maxHeartbeats 4000000 in
theorem t_X5_newDot {l : Launch} {Z : ZZ} {X : XX} (μ : Mm) (a0 : Nat) (a1 : Int32) (r : Int32) (μ' : Mm) (k0 : (zk Z a0).1 = 4) (h : f_X5_newDot (zk Z) μ a0 a1 = some (r, μ')) (C : Cx l Z false X cX5_newDot RX5 3 (some .int)) (E : Ex Z X 1 0 0 (some (.int r)) Z μ') : G Z X 3 0 0 0 [(0, .ref (za Z a0)), (1, .int a1)] [] μ := by
  unfold f_X5_newDot at h
  refine g_aload_n C (i := 0) 0 rfl rfl (dk kX5_newDot 0 rfl) ?_
  obtain ⟨b1, eb1, h⟩ := bd_inv h
  obtain ⟨rb1, kb1⟩ := rf_inv eb1
  refine gR_4_0 C k0 (C.w wd_1_159) rb1 (dk kX5_newDot 1 rfl) ?_
  obtain ⟨b2, eb2, h⟩ := bd_inv h
  obtain ⟨rb2, kb2⟩ := rf_inv eb2
  refine gRN_2_3 C kb1 (nf_4 C) rb2 (dk kX5_newDot 2 rfl) ?_
  refine g_iload_n C (i := 1) 1 rfl rfl (dk kX5_newDot 3 rfl) ?_
  obtain ⟨c3, h⟩ := gd_inv h
  refine g_iald C kb2 c3 (dk kX5_newDot 4 rfl) ?_
  obtain ⟨x4, ex4, h⟩ := lt_inv h
  refine g_nmi ex4 ?_
  refine g_istore_n C (i := 2) (lv' := [(2, .int x4), (0, .ref (za Z a0)), (1, .int a1)]) (dk kX5_newDot 5 rfl) rfl (by decide) rfl ?_
  refine g_aload_n C (i := 0) 1 rfl rfl (dk kX5_newDot 6 rfl) ?_
  obtain ⟨b5, eb5, h⟩ := bd_inv h
  obtain ⟨rb5, kb5⟩ := rf_inv eb5
  refine gR_4_0 C k0 (C.w wd_1_159) rb5 (dk kX5_newDot 7 rfl) ?_
  refine g_iload_n C (i := 1) 2 rfl rfl (dk kX5_newDot 8 rfl) ?_
  obtain ⟨μ7, eq6, h⟩ := bd_inv h
  refine g_callV C E.2 (rest := []) 1 (ct_X3_renew kb5 eq6) wd_2_214 mm_X3_renew ⟨rfl, by decide, by decide, by decide⟩ rfl (by decide) kb5 (by decide) rfl rfl (Nat.le_of_ble_eq_true rfl) (by decide) (dk kX5_newDot 9 rfl) ?_
  refine g_iload_n C (i := 2) 0 rfl rfl (dk kX5_newDot 10 rfl) ?_
  obtain ⟨h8, h9⟩ := Prod.mk.inj (Option.some.inj h)
  subst h8
  subst h9
  exact g_iret C E rfl rfl (Nat.le_refl 0) (Nat.le_refl 0) (dk kX5_newDot 11 rfl)
theorem ct_X5_newDot {l : Launch} {Z : ZZ} {μ : Mm} {a0 : Nat} {a1 : Int32} {r : Int32} {μ' : Mm} (k0 : (zk Z a0).1 = 4) (h : f_X5_newDot (zk Z) μ a0 a1 = some (r, μ')) : CtM l Z false yX5_newDot cX5_newDot 3 (some .int) 1 0 0 [.ref (za Z a0), .int a1] μ (some (.int r)) Z μ' := ct_of rfl rfl (Nat.le_of_ble_eq_true rfl) (fun X C E => t_X5_newDot μ a0 a1 r μ' k0 h C E)

def qX5_newHead : List (Nat × Instr × Nat) := [(0, .aload_n 0, 1), (1, .invokevirtual 71, 3), (4, .istore_n 2, 1), (5, .aload_n 0, 1), (6, .getfield 12, 3), (9, .iload_n 1, 1), (10, .invokevirtual 75, 3), (13, .iconst 0, 1), (14, .istore_n 3, 1), (15, .iload_n 3, 1), (16, .aload_n 0, 1), (17, .getfield 62, 3), (20, .if_icmp .ge 18, 3), (23, .aload_n 0, 1), (24, .getfield 30, 3), (27, .iload_n 3, 1), (28, .aaload, 1), (29, .invokevirtual 79, 3), (32, .iinc 3 1, 3), (35, .goto (-20), 3), (38, .iload_n 2, 1), (39, .ireturn, 1)]
theorem kX5_newHead : ∀ q ∈ qX5_newHead, decode cX5_newHead q.1 = .ok q.2 := by decide +kernel
def f_X5_newHead_l15 (K : Nat → Nat × Nat) (v0 : Nat) (v2 : Int32) : Nat → Mm → Int32 → Option (Mm)
  | 0, _, _ => none
  | n + 1, μ, v3 => if (μ.1 v0 6) ≤ v3 then (some μ) else (bd (rf K μ v0 5 9) fun b7 => gd (inb v3 (K b7).2) <| bd (rf K μ b7 (ix v3) 1) fun b9 => bd (f_X2_rentNothing K μ b9) fun μ11 => lt1 (α := Int32) (v3 + 1) fun x12 => f_X5_newHead_l15 K v0 v2 n μ11 x12)
def f_X5_newHead (K : Nat → Nat × Nat) (μ : Mm) (a0 : Nat) (a1 : Int32) : Option (Int32 × Mm) :=
  bd (f_X5_allWear K μ a0) fun x2 => bd (rf K μ a0 0 2) fun b3 => bd (f_X3_renewAll K μ b3 a1) fun μ5 => bd (f_X5_newHead_l15 K a0 x2 FU μ5 0) fun q13 => lt1 q13 fun μ14 => some (x2, μ14)
set_option maxRecDepth 100000 in
set_option maxHeartbeats 4000000 in
theorem gl_X5_newHead_15 {l : Launch} {Z : ZZ} {X : XX} (v0 : Nat) (v2 : Int32) (k0 : (zk Z v0).1 = 4) (C : Cx l Z false X cX5_newHead RX5 4 (some .int)) (E : xR X = rmm 2 0 0) : ∀ (n : Nat) (μ : Mm) (v3 : Int32) (y : Mm), f_X5_newHead_l15 (zk Z) v0 v2 n μ v3 = some y → G Z X 4 0 0 38 [(2, .int v2)] [] y → G Z X 4 0 0 15 [(0, .ref (za Z v0)), (2, .int v2), (3, .int v3)] [] μ := by
  intro n
  induction n with
  | zero => intro μ v3 y h he; unfold f_X5_newHead_l15 at h; cases h
  | succ n ih =>
    intro μ v3 y h he
    unfold f_X5_newHead_l15 at h
    refine g_iload_n C (i := 3) 2 rfl rfl (dk kX5_newHead 9 rfl) ?_
    refine g_aload_n C (i := 0) 0 rfl rfl (dk kX5_newHead 10 rfl) ?_
    refine gI_4_6 C k0 (C.w wd_1_168) (dk kX5_newHead 11 rfl) ?_
    refine g_icmp_ge C (tgt := 38) (dk kX5_newHead 12 rfl) (by decide) (fun c6 => ?_) (fun c6 => ?_)
    · replace h := ite_t h c6
      cases h
      exact g_sub [1] rfl he
    · replace h := ite_f h c6
      refine g_aload_n C (i := 0) 0 rfl rfl (dk kX5_newHead 13 rfl) ?_
      obtain ⟨b7, eb7, h⟩ := bd_inv h
      obtain ⟨rb7, kb7⟩ := rf_inv eb7
      refine gR_4_5 C k0 (C.w wd_1_166) rb7 (dk kX5_newHead 14 rfl) ?_
      refine g_iload_n C (i := 3) 2 rfl rfl (dk kX5_newHead 15 rfl) ?_
      obtain ⟨c8, h⟩ := gd_inv h
      obtain ⟨b9, eb9, h⟩ := bd_inv h
      obtain ⟨rb9, kb9⟩ := rf_inv eb9
      refine gA_9 C kb7 c8 rb9 (dk kX5_newHead 16 rfl) ?_
      obtain ⟨μ11, eq10, h⟩ := bd_inv h
      refine g_callV C E (rest := []) 0 (ct_X2_rentNothing kb9 eq10) wd_2_129 mm_X2_rentNothing ⟨rfl, by decide, by decide, by decide⟩ rfl (by decide) kb9 (by decide) rfl rfl (Nat.le_of_ble_eq_true rfl) (by decide) (dk kX5_newHead 17 rfl) ?_
      obtain ⟨x12, ex12, h⟩ := lt_inv h
      refine g_iinc C (i := 3) (v := x12) (lv' := [(3, .int x12), (0, .ref (za Z v0)), (2, .int v2)]) 2 (dk kX5_newHead 18 rfl) rfl (by rw [ex12]; rfl) (by decide) rfl ?_
      refine g_goto C (tgt := 15) (dk kX5_newHead 19 rfl) (by decide) ?_
      exact g_sub [1, 2, 0] rfl (ih μ11 x12 y h he)
set_option maxRecDepth 100000 in
set_option maxHeartbeats 4000000 in
theorem t_X5_newHead {l : Launch} {Z : ZZ} {X : XX} (μ : Mm) (a0 : Nat) (a1 : Int32) (r : Int32) (μ' : Mm) (k0 : (zk Z a0).1 = 4) (h : f_X5_newHead (zk Z) μ a0 a1 = some (r, μ')) (C : Cx l Z false X cX5_newHead RX5 4 (some .int)) (E : Ex Z X 2 0 0 (some (.int r)) Z μ') : G Z X 4 0 0 0 [(0, .ref (za Z a0)), (1, .int a1)] [] μ := by
  unfold f_X5_newHead at h
  refine g_aload_n C (i := 0) 0 rfl rfl (dk kX5_newHead 0 rfl) ?_
  obtain ⟨x2, eq1, h⟩ := bd_inv h
  refine g_callV C E.2 (rest := []) 0 (ct_X5_allWear k0 eq1) wd_2_113 mm_X5_allWear ⟨rfl, by decide, by decide, by decide⟩ rfl (by decide) k0 (by decide) rfl rfl (Nat.le_of_ble_eq_true rfl) (by decide) (dk kX5_newHead 1 rfl) ?_
  refine g_istore_n C (i := 2) (lv' := [(2, .int x2), (0, .ref (za Z a0)), (1, .int a1)]) (dk kX5_newHead 2 rfl) rfl (by decide) rfl ?_
  refine g_aload_n C (i := 0) 1 rfl rfl (dk kX5_newHead 3 rfl) ?_
  obtain ⟨b3, eb3, h⟩ := bd_inv h
  obtain ⟨rb3, kb3⟩ := rf_inv eb3
  refine gR_4_0 C k0 (C.w wd_1_159) rb3 (dk kX5_newHead 4 rfl) ?_
  refine g_iload_n C (i := 1) 2 rfl rfl (dk kX5_newHead 5 rfl) ?_
  obtain ⟨μ5, eq4, h⟩ := bd_inv h
  refine g_callV C E.2 (rest := []) 1 (ct_X3_renewAll kb3 eq4) wd_2_121 mm_X3_renewAll ⟨rfl, by decide, by decide, by decide⟩ rfl (by decide) kb3 (by decide) rfl rfl (Nat.le_of_ble_eq_true rfl) (by decide) (dk kX5_newHead 6 rfl) ?_
  refine g_iconst C (v := 0) (by decide) (dk kX5_newHead 7 rfl) ?_
  refine g_istore_n C (i := 3) (lv' := [(3, .int 0), (2, .int x2), (0, .ref (za Z a0)), (1, .int a1)]) (dk kX5_newHead 8 rfl) rfl (by decide) rfl ?_
  obtain ⟨q13, eq13, h⟩ := bd_inv h
  refine g_sub [2, 1, 0] (lv' := [(0, .ref (za Z a0)), (2, .int x2), (3, .int 0)]) rfl ?_
  refine gl_X5_newHead_15 a0 x2 k0 C E.2 FU μ5 0 _ eq13 ?_
  obtain ⟨μ14, eμ14, h⟩ := lt_inv h
  rw [← eμ14]
  refine g_iload_n C (i := 2) 0 rfl rfl (dk kX5_newHead 20 rfl) ?_
  obtain ⟨h8, h9⟩ := Prod.mk.inj (Option.some.inj h)
  subst h8
  subst h9
  exact g_iret C E rfl rfl (Nat.le_refl 0) (Nat.le_refl 0) (dk kX5_newHead 21 rfl)
theorem ct_X5_newHead {l : Launch} {Z : ZZ} {μ : Mm} {a0 : Nat} {a1 : Int32} {r : Int32} {μ' : Mm} (k0 : (zk Z a0).1 = 4) (h : f_X5_newHead (zk Z) μ a0 a1 = some (r, μ')) : CtM l Z false yX5_newHead cX5_newHead 4 (some .int) 2 0 0 [.ref (za Z a0), .int a1] μ (some (.int r)) Z μ' := ct_of rfl rfl (Nat.le_of_ble_eq_true rfl) (fun X C E => t_X5_newHead μ a0 a1 r μ' k0 h C E)

def qX5_newLabel : List (Nat × Instr × Nat) := [(0, .aload_n 0, 1), (1, .getfield 24, 3), (4, .aload_n 0, 1), (5, .getfield 55, 3), (8, .aaload, 1), (9, .iload_n 1, 1), (10, .putfield 88, 3), (13, .aload_n 0, 1), (14, .getfield 24, 3), (17, .aload_n 0, 1), (18, .getfield 55, 3), (21, .aaload, 1), (22, .iload_n 2, 1), (23, .putfield 91, 3), (26, .aload_n 0, 1), (27, .dup, 1), (28, .getfield 55, 3), (31, .iconst 1, 1), (32, .iadd, 1), (33, .putfield 55, 3), (36, .aload_n 0, 1), (37, .getfield 55, 3), (40, .iconst 1, 1), (41, .isub, 1), (42, .ireturn, 1)]
theorem kX5_newLabel : ∀ q ∈ qX5_newLabel, decode cX5_newLabel q.1 = .ok q.2 := by decide +kernel
def f_X5_newLabel (K : Nat → Nat × Nat) (μ : Mm) (a0 : Nat) (a1 : Int32) (a2 : Int32) : Option (Int32 × Mm) :=
  bd (rf K μ a0 3 10) fun b1 => gd (inb (μ.1 a0 4) (K b1).2) <| bd (rf K μ b1 (ix (μ.1 a0 4)) 3) fun b3 => lt1 (sI μ b3 0 a1) fun μ4 => bd (rf K μ4 a0 3 10) fun b5 => gd (inb (μ4.1 a0 4) (K b5).2) <| bd (rf K μ4 b5 (ix (μ4.1 a0 4)) 3) fun b7 => lt1 (sI μ4 b7 1 a2) fun μ8 => lt1 (sI μ8 a0 4 ((μ8.1 a0 4) + 1)) fun μ9 => some (((μ9.1 a0 4) - 1), μ9)
set_option maxRecDepth 100000 in
set_option maxHeartbeats 4000000 in
theorem t_X5_newLabel {l : Launch} {Z : ZZ} {X : XX} (μ : Mm) (a0 : Nat) (a1 : Int32) (a2 : Int32) (r : Int32) (μ' : Mm) (k0 : (zk Z a0).1 = 4) (h : f_X5_newLabel (zk Z) μ a0 a1 a2 = some (r, μ')) (C : Cx l Z false X cX5_newLabel RX5 3 (some .int)) (E : Ex Z X 0 0 0 (some (.int r)) Z μ') : G Z X 3 0 0 0 [(0, .ref (za Z a0)), (1, .int a1), (2, .int a2)] [] μ := by
  unfold f_X5_newLabel at h
  refine g_aload_n C (i := 0) 0 rfl rfl (dk kX5_newLabel 0 rfl) ?_
  obtain ⟨b1, eb1, h⟩ := bd_inv h
  obtain ⟨rb1, kb1⟩ := rf_inv eb1
  refine gR_4_3 C k0 (C.w wd_1_163) rb1 (dk kX5_newLabel 1 rfl) ?_
  refine g_aload_n C (i := 0) 0 rfl rfl (dk kX5_newLabel 2 rfl) ?_
  refine gI_4_4 C k0 (C.w wd_1_165) (dk kX5_newLabel 3 rfl) ?_
  obtain ⟨c2, h⟩ := gd_inv h
  obtain ⟨b3, eb3, h⟩ := bd_inv h
  obtain ⟨rb3, kb3⟩ := rf_inv eb3
  refine gA_10 C kb1 c2 rb3 (dk kX5_newLabel 4 rfl) ?_
  refine g_iload_n C (i := 1) 1 rfl rfl (dk kX5_newLabel 5 rfl) ?_
  obtain ⟨μ4, eμ4, h⟩ := lt_inv h
  refine pIN_3_0 C kb3 (nf_7 C) eμ4 (dk kX5_newLabel 6 rfl) ?_
  refine g_aload_n C (i := 0) 0 rfl rfl (dk kX5_newLabel 7 rfl) ?_
  obtain ⟨b5, eb5, h⟩ := bd_inv h
  obtain ⟨rb5, kb5⟩ := rf_inv eb5
  refine gR_4_3 C k0 (C.w wd_1_163) rb5 (dk kX5_newLabel 8 rfl) ?_
  refine g_aload_n C (i := 0) 0 rfl rfl (dk kX5_newLabel 9 rfl) ?_
  refine gI_4_4 C k0 (C.w wd_1_165) (dk kX5_newLabel 10 rfl) ?_
  obtain ⟨c6, h⟩ := gd_inv h
  obtain ⟨b7, eb7, h⟩ := bd_inv h
  obtain ⟨rb7, kb7⟩ := rf_inv eb7
  refine gA_10 C kb5 c6 rb7 (dk kX5_newLabel 11 rfl) ?_
  refine g_iload_n C (i := 2) 2 rfl rfl (dk kX5_newLabel 12 rfl) ?_
  obtain ⟨μ8, eμ8, h⟩ := lt_inv h
  refine pIN_3_1 C kb7 (nf_9 C) eμ8 (dk kX5_newLabel 13 rfl) ?_
  refine g_aload_n C (i := 0) 0 rfl rfl (dk kX5_newLabel 14 rfl) ?_
  refine g_dup C rfl (dk kX5_newLabel 15 rfl) ?_
  refine gI_4_4 C k0 (C.w wd_1_165) (dk kX5_newLabel 16 rfl) ?_
  refine g_iconst C (v := 1) (by decide) (dk kX5_newLabel 17 rfl) ?_
  refine g_iadd C (dk kX5_newLabel 18 rfl) ?_
  obtain ⟨μ9, eμ9, h⟩ := lt_inv h
  refine pI_4_4 C k0 (C.w wd_1_165) eμ9 (dk kX5_newLabel 19 rfl) ?_
  refine g_aload_n C (i := 0) 0 rfl rfl (dk kX5_newLabel 20 rfl) ?_
  refine gI_4_4 C k0 (C.w wd_1_165) (dk kX5_newLabel 21 rfl) ?_
  refine g_iconst C (v := 1) (by decide) (dk kX5_newLabel 22 rfl) ?_
  refine g_isub C (dk kX5_newLabel 23 rfl) ?_
  obtain ⟨h8, h9⟩ := Prod.mk.inj (Option.some.inj h)
  subst h8
  subst h9
  exact g_iret C E rfl rfl (Nat.le_refl 0) (Nat.le_refl 0) (dk kX5_newLabel 24 rfl)
theorem ct_X5_newLabel {l : Launch} {Z : ZZ} {μ : Mm} {a0 : Nat} {a1 : Int32} {a2 : Int32} {r : Int32} {μ' : Mm} (k0 : (zk Z a0).1 = 4) (h : f_X5_newLabel (zk Z) μ a0 a1 a2 = some (r, μ')) : CtM l Z false yX5_newLabel cX5_newLabel 3 (some .int) 0 0 0 [.ref (za Z a0), .int a1, .int a2] μ (some (.int r)) Z μ' := ct_of rfl rfl (Nat.le_of_ble_eq_true rfl) (fun X C E => t_X5_newLabel μ a0 a1 a2 r μ' k0 h C E)

def qX5_passLines : List (Nat × Instr × Nat) := [(0, .aload_n 0, 1), (1, .getfield 12, 3), (4, .iload_n 1, 1), (5, .aload_n 0, 1), (6, .getfield 18, 3), (9, .iconst 0, 1), (10, .iaload, 1), (11, .imul, 1), (12, .invokevirtual 113, 3), (15, .aload_n 0, 1), (16, .dup, 1), (17, .getfield 65, 3), (20, .iload_n 1, 1), (21, .iadd, 1), (22, .putfield 65, 3), (25, .aload_n 0, 1), (26, .getfield 12, 3), (29, .invokevirtual 116, 3), (32, .ireturn, 1)]
theorem kX5_passLines : ∀ q ∈ qX5_passLines, decode cX5_passLines q.1 = .ok q.2 := by decide +kernel
def f_X5_passLines (K : Nat → Nat × Nat) (μ : Mm) (a0 : Nat) (a1 : Int32) : Option (Int32 × Mm) :=
  bd (rf K μ a0 0 2) fun b1 => bd (rf K μ a0 2 8) fun b2 => gd (inb 0 (K b2).2) <| bd (f_X3_lose K μ b1 (a1 * (μ.1 b2 (ix 0)))) fun μ5 => lt1 (sI μ5 a0 7 ((μ5.1 a0 7) + a1)) fun μ6 => bd (rf K μ6 a0 0 2) fun b7 => bd (f_X3_heatSum K μ6 b7) fun x9 => some (x9, μ6)
set_option maxRecDepth 100000 in
set_option maxHeartbeats 4000000 in
theorem t_X5_passLines {l : Launch} {Z : ZZ} {X : XX} (μ : Mm) (a0 : Nat) (a1 : Int32) (r : Int32) (μ' : Mm) (k0 : (zk Z a0).1 = 4) (h : f_X5_passLines (zk Z) μ a0 a1 = some (r, μ')) (C : Cx l Z false X cX5_passLines RX5 2 (some .int)) (E : Ex Z X 1 0 0 (some (.int r)) Z μ') : G Z X 2 0 0 0 [(0, .ref (za Z a0)), (1, .int a1)] [] μ := by
  unfold f_X5_passLines at h
  refine g_aload_n C (i := 0) 0 rfl rfl (dk kX5_passLines 0 rfl) ?_
  obtain ⟨b1, eb1, h⟩ := bd_inv h
  obtain ⟨rb1, kb1⟩ := rf_inv eb1
  refine gR_4_0 C k0 (C.w wd_1_159) rb1 (dk kX5_passLines 1 rfl) ?_
  refine g_iload_n C (i := 1) 1 rfl rfl (dk kX5_passLines 2 rfl) ?_
  refine g_aload_n C (i := 0) 0 rfl rfl (dk kX5_passLines 3 rfl) ?_
  obtain ⟨b2, eb2, h⟩ := bd_inv h
  obtain ⟨rb2, kb2⟩ := rf_inv eb2
  refine gR_4_2 C k0 (C.w wd_1_162) rb2 (dk kX5_passLines 4 rfl) ?_
  refine g_iconst C (v := 0) (by decide) (dk kX5_passLines 5 rfl) ?_
  obtain ⟨c3, h⟩ := gd_inv h
  refine g_iald C kb2 c3 (dk kX5_passLines 6 rfl) ?_
  refine g_imul C (dk kX5_passLines 7 rfl) ?_
  obtain ⟨μ5, eq4, h⟩ := bd_inv h
  refine g_callV C E.2 (rest := []) 1 (ct_X3_lose kb1 eq4) wd_2_230 mm_X3_lose ⟨rfl, by decide, by decide, by decide⟩ rfl (by decide) kb1 (by decide) rfl rfl (Nat.le_of_ble_eq_true rfl) (by decide) (dk kX5_passLines 8 rfl) ?_
  refine g_aload_n C (i := 0) 0 rfl rfl (dk kX5_passLines 9 rfl) ?_
  refine g_dup C rfl (dk kX5_passLines 10 rfl) ?_
  refine gI_4_7 C k0 (C.w wd_1_169) (dk kX5_passLines 11 rfl) ?_
  refine g_iload_n C (i := 1) 1 rfl rfl (dk kX5_passLines 12 rfl) ?_
  refine g_iadd C (dk kX5_passLines 13 rfl) ?_
  obtain ⟨μ6, eμ6, h⟩ := lt_inv h
  refine pI_4_7 C k0 (C.w wd_1_169) eμ6 (dk kX5_passLines 14 rfl) ?_
  refine g_aload_n C (i := 0) 0 rfl rfl (dk kX5_passLines 15 rfl) ?_
  obtain ⟨b7, eb7, h⟩ := bd_inv h
  obtain ⟨rb7, kb7⟩ := rf_inv eb7
  refine gR_4_0 C k0 (C.w wd_1_159) rb7 (dk kX5_passLines 16 rfl) ?_
  obtain ⟨x9, eq8, h⟩ := bd_inv h
  refine g_callV C E.2 (rest := []) 0 (ct_X3_heatSum kb7 eq8) wd_2_234 mm_X3_heatSum ⟨rfl, by decide, by decide, by decide⟩ rfl (by decide) kb7 (by decide) rfl rfl (Nat.le_of_ble_eq_true rfl) (by decide) (dk kX5_passLines 17 rfl) ?_
  obtain ⟨h8, h9⟩ := Prod.mk.inj (Option.some.inj h)
  subst h8
  subst h9
  exact g_iret C E rfl rfl (Nat.le_refl 0) (Nat.le_refl 0) (dk kX5_passLines 18 rfl)
theorem ct_X5_passLines {l : Launch} {Z : ZZ} {μ : Mm} {a0 : Nat} {a1 : Int32} {r : Int32} {μ' : Mm} (k0 : (zk Z a0).1 = 4) (h : f_X5_passLines (zk Z) μ a0 a1 = some (r, μ')) : CtM l Z false yX5_passLines cX5_passLines 2 (some .int) 1 0 0 [.ref (za Z a0), .int a1] μ (some (.int r)) Z μ' := ct_of rfl rfl (Nat.le_of_ble_eq_true rfl) (fun X C E => t_X5_passLines μ a0 a1 r μ' k0 h C E)

def qX5_printAt : List (Nat × Instr × Nat) := [(0, .aload_n 0, 1), (1, .iload_n 1, 1), (2, .iload_n 2, 1), (3, .iload_n 3, 1), (4, .invokevirtual 145, 3), (7, .istore 4, 2), (9, .aload_n 0, 1), (10, .getfield 12, 3), (13, .aload_n 0, 1), (14, .getfield 24, 3), (17, .iload_n 2, 1), (18, .aaload, 1), (19, .iload_n 3, 1), (20, .aload_n 0, 1), (21, .getfield 18, 3), (24, .invokevirtual 148, 3), (27, .istore 5, 2), (29, .aload_n 0, 1), (30, .dup, 1), (31, .getfield 65, 3), (34, .bipush 6, 2), (36, .iadd, 1), (37, .putfield 65, 3), (40, .aload_n 0, 1), (41, .aload_n 0, 1), (42, .getfield 30, 3), (45, .iload_n 1, 1), (46, .aaload, 1), (47, .aload_n 0, 1), (48, .getfield 24, 3), (51, .iload_n 2, 1), (52, .aaload, 1), (53, .iload 4, 2), (55, .iload 5, 2), (57, .aload_n 0, 1), (58, .getfield 18, 3), (61, .iconst 5, 1), (62, .iaload, 1), (63, .if_icmp .le 7, 3), (66, .iconst 1, 1), (67, .goto 4, 3), (70, .iconst 0, 1), (71, .invokevirtual 152, 3), (74, .iload 5, 2), (76, .ireturn, 1)]
theorem kX5_printAt : ∀ q ∈ qX5_printAt, decode cX5_printAt q.1 = .ok q.2 := by decide +kernel
def f_X5_printAt (K : Nat → Nat × Nat) (μ : Mm) (a0 : Nat) (a1 : Int32) (a2 : Int32) (a3 : Int32) : Option (Int32 × Mm) :=
  bd (f_X5_priceAt K μ a0 a1 a2 a3) fun x2 => bd (rf K μ a0 0 2) fun b3 => bd (rf K μ a0 3 10) fun b4 => gd (inb a2 (K b4).2) <| bd (rf K μ b4 (ix a2) 3) fun b6 => bd (rf K μ a0 2 8) fun b7 => bd (f_X3_printRows K μ b3 b6 a3 b7) fun q8 => lt1 q8.1 fun x10 => lt1 q8.2 fun μ9 => lt1 (sI μ9 a0 7 ((μ9.1 a0 7) + 6)) fun μ11 => bd (rf K μ11 a0 5 9) fun b12 => gd (inb a1 (K b12).2) <| bd (rf K μ11 b12 (ix a1) 1) fun b14 => bd (rf K μ11 a0 3 10) fun b15 => gd (inb a2 (K b15).2) <| bd (rf K μ11 b15 (ix a2) 3) fun b17 => bd (rf K μ11 a0 2 8) fun b18 => gd (inb 5 (K b18).2) <| lt1 (α := Int32) (if x10 ≤ (μ11.1 b18 (ix 5)) then 0 else 1) fun x20 => bd (f_X5_book K μ11 a0 b14 b17 x2 x20) fun μ23 => some (x10, μ23)
set_option maxRecDepth 100000 in
set_option maxHeartbeats 4000000 in
theorem t_X5_printAt {l : Launch} {Z : ZZ} {X : XX} (μ : Mm) (a0 : Nat) (a1 : Int32) (a2 : Int32) (a3 : Int32) (r : Int32) (μ' : Mm) (k0 : (zk Z a0).1 = 4) (h : f_X5_printAt (zk Z) μ a0 a1 a2 a3 = some (r, μ')) (C : Cx l Z false X cX5_printAt RX5 6 (some .int)) (E : Ex Z X 3 0 0 (some (.int r)) Z μ') : G Z X 6 0 0 0 [(0, .ref (za Z a0)), (1, .int a1), (2, .int a2), (3, .int a3)] [] μ := by
  unfold f_X5_printAt at h
  refine g_aload_n C (i := 0) 0 rfl rfl (dk kX5_printAt 0 rfl) ?_
  refine g_iload_n C (i := 1) 1 rfl rfl (dk kX5_printAt 1 rfl) ?_
  refine g_iload_n C (i := 2) 2 rfl rfl (dk kX5_printAt 2 rfl) ?_
  refine g_iload_n C (i := 3) 3 rfl rfl (dk kX5_printAt 3 rfl) ?_
  obtain ⟨x2, eq1, h⟩ := bd_inv h
  refine g_callV C E.2 (rest := []) 3 (ct_X5_priceAt k0 eq1) wd_3_108 mm_X5_priceAt ⟨rfl, by decide, by decide, by decide⟩ rfl (by decide) k0 (by decide) rfl rfl (Nat.le_of_ble_eq_true rfl) (by decide) (dk kX5_printAt 4 rfl) ?_
  refine g_istore C (i := 4) (lv' := [(4, .int x2), (0, .ref (za Z a0)), (1, .int a1), (2, .int a2), (3, .int a3)]) (dk kX5_printAt 5 rfl) (by decide) rfl ?_
  refine g_aload_n C (i := 0) 1 rfl rfl (dk kX5_printAt 6 rfl) ?_
  obtain ⟨b3, eb3, h⟩ := bd_inv h
  obtain ⟨rb3, kb3⟩ := rf_inv eb3
  refine gR_4_0 C k0 (C.w wd_1_159) rb3 (dk kX5_printAt 7 rfl) ?_
  refine g_aload_n C (i := 0) 1 rfl rfl (dk kX5_printAt 8 rfl) ?_
  obtain ⟨b4, eb4, h⟩ := bd_inv h
  obtain ⟨rb4, kb4⟩ := rf_inv eb4
  refine gR_4_3 C k0 (C.w wd_1_163) rb4 (dk kX5_printAt 9 rfl) ?_
  refine g_iload_n C (i := 2) 3 rfl rfl (dk kX5_printAt 10 rfl) ?_
  obtain ⟨c5, h⟩ := gd_inv h
  obtain ⟨b6, eb6, h⟩ := bd_inv h
  obtain ⟨rb6, kb6⟩ := rf_inv eb6
  refine gA_10 C kb4 c5 rb6 (dk kX5_printAt 11 rfl) ?_
  refine g_iload_n C (i := 3) 4 rfl rfl (dk kX5_printAt 12 rfl) ?_
  refine g_aload_n C (i := 0) 1 rfl rfl (dk kX5_printAt 13 rfl) ?_
  obtain ⟨b7, eb7, h⟩ := bd_inv h
  obtain ⟨rb7, kb7⟩ := rf_inv eb7
  refine gR_4_2 C k0 (C.w wd_1_162) rb7 (dk kX5_printAt 14 rfl) ?_
  obtain ⟨q8, eq8, h⟩ := bd_inv h
  obtain ⟨x10, ex10, h⟩ := lt_inv h
  obtain ⟨μ9, eμ9, h⟩ := lt_inv h
  rw [show q8 = (x10, μ9) from by rw [ex10, eμ9]] at eq8
  refine g_callV C E.2 (rest := []) 3 (ct_X3_printRows kb3 kb6 kb7 eq8) wd_3_119 mm_X3_printRows ⟨rfl, by decide, by decide, by decide⟩ rfl (by decide) kb3 (by decide) rfl rfl (Nat.le_of_ble_eq_true rfl) (by decide) (dk kX5_printAt 15 rfl) ?_
  refine g_istore C (i := 5) (lv' := [(5, .int x10), (4, .int x2), (0, .ref (za Z a0)), (1, .int a1), (2, .int a2), (3, .int a3)]) (dk kX5_printAt 16 rfl) (by decide) rfl ?_
  refine g_aload_n C (i := 0) 2 rfl rfl (dk kX5_printAt 17 rfl) ?_
  refine g_dup C rfl (dk kX5_printAt 18 rfl) ?_
  refine gI_4_7 C k0 (C.w wd_1_169) (dk kX5_printAt 19 rfl) ?_
  refine g_bipush C (v := 6) (by decide) (dk kX5_printAt 20 rfl) ?_
  refine g_iadd C (dk kX5_printAt 21 rfl) ?_
  obtain ⟨μ11, eμ11, h⟩ := lt_inv h
  refine pI_4_7 C k0 (C.w wd_1_169) eμ11 (dk kX5_printAt 22 rfl) ?_
  refine g_aload_n C (i := 0) 2 rfl rfl (dk kX5_printAt 23 rfl) ?_
  refine g_aload_n C (i := 0) 2 rfl rfl (dk kX5_printAt 24 rfl) ?_
  obtain ⟨b12, eb12, h⟩ := bd_inv h
  obtain ⟨rb12, kb12⟩ := rf_inv eb12
  refine gR_4_5 C k0 (C.w wd_1_166) rb12 (dk kX5_printAt 25 rfl) ?_
  refine g_iload_n C (i := 1) 3 rfl rfl (dk kX5_printAt 26 rfl) ?_
  obtain ⟨c13, h⟩ := gd_inv h
  obtain ⟨b14, eb14, h⟩ := bd_inv h
  obtain ⟨rb14, kb14⟩ := rf_inv eb14
  refine gA_9 C kb12 c13 rb14 (dk kX5_printAt 27 rfl) ?_
  refine g_aload_n C (i := 0) 2 rfl rfl (dk kX5_printAt 28 rfl) ?_
  obtain ⟨b15, eb15, h⟩ := bd_inv h
  obtain ⟨rb15, kb15⟩ := rf_inv eb15
  refine gR_4_3 C k0 (C.w wd_1_163) rb15 (dk kX5_printAt 29 rfl) ?_
  refine g_iload_n C (i := 2) 4 rfl rfl (dk kX5_printAt 30 rfl) ?_
  obtain ⟨c16, h⟩ := gd_inv h
  obtain ⟨b17, eb17, h⟩ := bd_inv h
  obtain ⟨rb17, kb17⟩ := rf_inv eb17
  refine gA_10 C kb15 c16 rb17 (dk kX5_printAt 31 rfl) ?_
  refine g_iload C (i := 4) 1 rfl (dk kX5_printAt 32 rfl) ?_
  refine g_iload C (i := 5) 0 rfl (dk kX5_printAt 33 rfl) ?_
  refine g_aload_n C (i := 0) 2 rfl rfl (dk kX5_printAt 34 rfl) ?_
  obtain ⟨b18, eb18, h⟩ := bd_inv h
  obtain ⟨rb18, kb18⟩ := rf_inv eb18
  refine gR_4_2 C k0 (C.w wd_1_162) rb18 (dk kX5_printAt 35 rfl) ?_
  refine g_iconst C (v := 5) (by decide) (dk kX5_printAt 36 rfl) ?_
  obtain ⟨c19, h⟩ := gd_inv h
  refine g_iald C kb18 c19 (dk kX5_printAt 37 rfl) ?_
  obtain ⟨x20, ex20, h⟩ := lt_inv h
  have kj21 : G Z X 6 0 0 71 [(5, .int x10), (4, .int x2), (0, .ref (za Z a0)), (1, .int a1), (2, .int a2), (3, .int a3)] [.int x20, .int x2, .ref (za Z b17), .ref (za Z b14), .ref (za Z a0)] μ11 := by
    obtain ⟨μ23, eq22, h⟩ := bd_inv h
    refine g_callV C E.2 (rest := []) 4 (ct_X5_book k0 kb14 kb17 eq22) wd_3_132 mm_X5_book ⟨rfl, by decide, by decide, by decide⟩ rfl (by decide) k0 (by decide) rfl rfl (Nat.le_of_ble_eq_true rfl) (by decide) (dk kX5_printAt 42 rfl) ?_
    refine g_iload C (i := 5) 0 rfl (dk kX5_printAt 43 rfl) ?_
    obtain ⟨h8, h9⟩ := Prod.mk.inj (Option.some.inj h)
    subst h8
    subst h9
    exact g_iret C E rfl rfl (Nat.le_refl 0) (Nat.le_refl 0) (dk kX5_printAt 44 rfl)
  clear h
  refine g_icmp_le C (tgt := 70) (dk kX5_printAt 38 rfl) (by decide) (fun c24 => ?_) (fun c24 => ?_)
  · refine g_iconst C (v := 0) (by decide) (dk kX5_printAt 41 rfl) ?_
    exact g_nmi (by rw [ex20, if_pos c24]) kj21
  · refine g_iconst C (v := 1) (by decide) (dk kX5_printAt 39 rfl) ?_
    refine g_goto C (tgt := 71) (dk kX5_printAt 40 rfl) (by decide) ?_
    exact g_nmi (by rw [ex20, if_neg c24]) kj21
theorem ct_X5_printAt {l : Launch} {Z : ZZ} {μ : Mm} {a0 : Nat} {a1 : Int32} {a2 : Int32} {a3 : Int32} {r : Int32} {μ' : Mm} (k0 : (zk Z a0).1 = 4) (h : f_X5_printAt (zk Z) μ a0 a1 a2 a3 = some (r, μ')) : CtM l Z false yX5_printAt cX5_printAt 6 (some .int) 3 0 0 [.ref (za Z a0), .int a1, .int a2, .int a3] μ (some (.int r)) Z μ' := ct_of rfl rfl (Nat.le_of_ble_eq_true rfl) (fun X C E => t_X5_printAt μ a0 a1 a2 a3 r μ' k0 h C E)

def qX5_printAtBest : List (Nat × Instr × Nat) := [(0, .aload_n 0, 1), (1, .iload_n 1, 1), (2, .iload_n 2, 1), (3, .invokevirtual 174, 3), (6, .istore_n 3, 1), (7, .iload_n 3, 1), (8, .iconst (-1), 1), (9, .if_icmp .eq 11, 3), (12, .aload_n 0, 1), (13, .iload_n 1, 1), (14, .iload_n 2, 1), (15, .iload_n 3, 1), (16, .invokevirtual 177, 3), (19, .pop, 1), (20, .iload_n 3, 1), (21, .ireturn, 1)]
theorem kX5_printAtBest : ∀ q ∈ qX5_printAtBest, decode cX5_printAtBest q.1 = .ok q.2 := by decide +kernel
def f_X5_printAtBest (K : Nat → Nat × Nat) (μ : Mm) (a0 : Nat) (a1 : Int32) (a2 : Int32) : Option (Int32 × Mm) :=
  bd (f_X5_bestPlace K μ a0 a1 a2) fun q1 => lt1 q1.1 fun x3 => lt1 q1.2 fun μ2 => if x3 = (-1) then (some (x3, μ2)) else (bd (f_X5_printAt K μ2 a0 a1 a2 x3) fun q5 => lt1 q5.1 fun x7 => lt1 q5.2 fun μ6 => some (x3, μ6))
set_option maxRecDepth 100000 in
set_option maxHeartbeats 4000000 in
theorem t_X5_printAtBest {l : Launch} {Z : ZZ} {X : XX} (μ : Mm) (a0 : Nat) (a1 : Int32) (a2 : Int32) (r : Int32) (μ' : Mm) (k0 : (zk Z a0).1 = 4) (h : f_X5_printAtBest (zk Z) μ a0 a1 a2 = some (r, μ')) (C : Cx l Z false X cX5_printAtBest RX5 4 (some .int)) (E : Ex Z X 4 0 0 (some (.int r)) Z μ') : G Z X 4 0 0 0 [(0, .ref (za Z a0)), (1, .int a1), (2, .int a2)] [] μ := by
  unfold f_X5_printAtBest at h
  refine g_aload_n C (i := 0) 0 rfl rfl (dk kX5_printAtBest 0 rfl) ?_
  refine g_iload_n C (i := 1) 1 rfl rfl (dk kX5_printAtBest 1 rfl) ?_
  refine g_iload_n C (i := 2) 2 rfl rfl (dk kX5_printAtBest 2 rfl) ?_
  obtain ⟨q1, eq1, h⟩ := bd_inv h
  obtain ⟨x3, ex3, h⟩ := lt_inv h
  obtain ⟨μ2, eμ2, h⟩ := lt_inv h
  rw [show q1 = (x3, μ2) from by rw [ex3, eμ2]] at eq1
  refine g_callV C E.2 (rest := []) 2 (ct_X5_bestPlace k0 eq1) wd_3_151 mm_X5_bestPlace ⟨rfl, by decide, by decide, by decide⟩ rfl (by decide) k0 (by decide) rfl rfl (Nat.le_of_ble_eq_true rfl) (by decide) (dk kX5_printAtBest 3 rfl) ?_
  refine g_istore_n C (i := 3) (lv' := [(3, .int x3), (0, .ref (za Z a0)), (1, .int a1), (2, .int a2)]) (dk kX5_printAtBest 4 rfl) rfl (by decide) rfl ?_
  refine g_iload_n C (i := 3) 0 rfl rfl (dk kX5_printAtBest 5 rfl) ?_
  refine g_iconst C (v := (-1)) (by decide) (dk kX5_printAtBest 6 rfl) ?_
  refine g_icmp_eq C (tgt := 20) (dk kX5_printAtBest 7 rfl) (by decide) (fun c4 => ?_) (fun c4 => ?_)
  · replace h := ite_t h c4
    refine g_iload_n C (i := 3) 0 rfl rfl (dk kX5_printAtBest 14 rfl) ?_
    obtain ⟨h8, h9⟩ := Prod.mk.inj (Option.some.inj h)
    subst h8
    subst h9
    exact g_iret C E rfl rfl (Nat.le_refl 0) (Nat.le_refl 0) (dk kX5_printAtBest 15 rfl)
  · replace h := ite_f h c4
    refine g_aload_n C (i := 0) 1 rfl rfl (dk kX5_printAtBest 8 rfl) ?_
    refine g_iload_n C (i := 1) 2 rfl rfl (dk kX5_printAtBest 9 rfl) ?_
    refine g_iload_n C (i := 2) 3 rfl rfl (dk kX5_printAtBest 10 rfl) ?_
    refine g_iload_n C (i := 3) 0 rfl rfl (dk kX5_printAtBest 11 rfl) ?_
    obtain ⟨q5, eq5, h⟩ := bd_inv h
    obtain ⟨x7, ex7, h⟩ := lt_inv h
    obtain ⟨μ6, eμ6, h⟩ := lt_inv h
    rw [show q5 = (x7, μ6) from by rw [ex7, eμ6]] at eq5
    refine g_callV C E.2 (rest := []) 3 (ct_X5_printAt k0 eq5) wd_3_167 mm_X5_printAt ⟨rfl, by decide, by decide, by decide⟩ rfl (by decide) k0 (by decide) rfl rfl (Nat.le_of_ble_eq_true rfl) (by decide) (dk kX5_printAtBest 12 rfl) ?_
    refine g_pop C rfl (dk kX5_printAtBest 13 rfl) ?_
    refine g_iload_n C (i := 3) 0 rfl rfl (dk kX5_printAtBest 14 rfl) ?_
    obtain ⟨h8, h9⟩ := Prod.mk.inj (Option.some.inj h)
    subst h8
    subst h9
    exact g_iret C E rfl rfl (Nat.le_refl 0) (Nat.le_refl 0) (dk kX5_printAtBest 15 rfl)
theorem ct_X5_printAtBest {l : Launch} {Z : ZZ} {μ : Mm} {a0 : Nat} {a1 : Int32} {a2 : Int32} {r : Int32} {μ' : Mm} (k0 : (zk Z a0).1 = 4) (h : f_X5_printAtBest (zk Z) μ a0 a1 a2 = some (r, μ')) : CtM l Z false yX5_printAtBest cX5_printAtBest 4 (some .int) 4 0 0 [.ref (za Z a0), .int a1, .int a2] μ (some (.int r)) Z μ' := ct_of rfl rfl (Nat.le_of_ble_eq_true rfl) (fun X C E => t_X5_printAtBest μ a0 a1 a2 r μ' k0 h C E)

def qX5_takeOver : List (Nat × Instr × Nat) := [(0, .aload_n 0, 1), (1, .getfield 12, 3), (4, .aload_n 1, 1), (5, .getfield 12, 3), (8, .invokevirtual 48, 3), (11, .aload_n 1, 1), (12, .getfield 18, 3), (15, .iconst 0, 1), (16, .aload_n 0, 1), (17, .getfield 18, 3), (20, .iconst 0, 1), (21, .bipush 7, 2), (23, .invokestatic 40, 3), (26, .iconst 0, 1), (27, .istore_n 2, 1), (28, .iload_n 2, 1), (29, .bipush 6, 2), (31, .if_icmp .ge 24, 3), (34, .aload_n 0, 1), (35, .getfield 24, 3), (38, .iload_n 2, 1), (39, .aaload, 1), (40, .aload_n 1, 1), (41, .getfield 24, 3), (44, .iload_n 2, 1), (45, .aaload, 1), (46, .invokevirtual 52, 3), (49, .iinc 2 1, 3), (52, .goto (-24), 3), (55, .aload_n 0, 1), (56, .aload_n 1, 1), (57, .getfield 55, 3), (60, .putfield 55, 3), (63, .iconst 0, 1), (64, .istore_n 2, 1), (65, .iload_n 2, 1), (66, .bipush 6, 2), (68, .if_icmp .ge 24, 3), (71, .aload_n 0, 1), (72, .getfield 30, 3), (75, .iload_n 2, 1), (76, .aaload, 1), (77, .aload_n 1, 1), (78, .getfield 30, 3), (81, .iload_n 2, 1), (82, .aaload, 1), (83, .invokevirtual 59, 3), (86, .iinc 2 1, 3), (89, .goto (-24), 3), (92, .aload_n 0, 1), (93, .aload_n 1, 1), (94, .getfield 62, 3), (97, .putfield 62, 3), (100, .aload_n 0, 1), (101, .aload_n 1, 1), (102, .getfield 65, 3), (105, .putfield 65, 3), (108, .return_, 1)]
theorem kX5_takeOver : ∀ q ∈ qX5_takeOver, decode cX5_takeOver q.1 = .ok q.2 := by decide +kernel
def f_X5_takeOver_l28 (K : Nat → Nat × Nat) (v0 : Nat) (v1 : Nat) : Nat → Mm → Int32 → Option (Mm)
  | 0, _, _ => none
  | n + 1, μ, v2 => if 6 ≤ v2 then (some μ) else (bd (rf K μ v0 3 10) fun b10 => gd (inb v2 (K b10).2) <| bd (rf K μ b10 (ix v2) 3) fun b12 => bd (rf K μ v1 3 10) fun b13 => gd (inb v2 (K b13).2) <| bd (rf K μ b13 (ix v2) 3) fun b15 => bd (f_X4_takeOver K μ b12 b15) fun μ17 => lt1 (α := Int32) (v2 + 1) fun x18 => f_X5_takeOver_l28 K v0 v1 n μ17 x18)
def f_X5_takeOver_l65 (K : Nat → Nat × Nat) (v0 : Nat) (v1 : Nat) : Nat → Mm → Int32 → Option (Mm)
  | 0, _, _ => none
  | n + 1, μ, v2 => if 6 ≤ v2 then (some μ) else (bd (rf K μ v0 5 9) fun b23 => gd (inb v2 (K b23).2) <| bd (rf K μ b23 (ix v2) 1) fun b25 => bd (rf K μ v1 5 9) fun b26 => gd (inb v2 (K b26).2) <| bd (rf K μ b26 (ix v2) 1) fun b28 => bd (f_X2_takeOver K μ b25 b28) fun μ30 => lt1 (α := Int32) (v2 + 1) fun x31 => f_X5_takeOver_l65 K v0 v1 n μ30 x31)
def f_X5_takeOver (K : Nat → Nat × Nat) (μ : Mm) (a0 : Nat) (a1 : Nat) : Option (Mm) :=
  bd (rf K μ a0 0 2) fun b1 => bd (rf K μ a1 0 2) fun b2 => bd (f_X3_takeOver K μ b1 b2) fun μ4 => bd (rf K μ4 a1 2 8) fun b5 => bd (rf K μ4 a0 2 8) fun b6 => gd (okc 0 0 7 (K b5).2 (K b6).2) <| lt1 (sIr μ4 b6 (va_cpy (μ4.1 b5) (μ4.1 b6) (ix 0) (ix 0) (ix 7))) fun μ8 => bd (f_X5_takeOver_l28 K a0 a1 FU μ8 0) fun q19 => lt1 q19 fun μ20 => lt1 (sI μ20 a0 4 (μ20.1 a1 4)) fun μ21 => bd (f_X5_takeOver_l65 K a0 a1 FU μ21 0) fun q32 => lt1 q32 fun μ33 => lt1 (sI μ33 a0 6 (μ33.1 a1 6)) fun μ34 => lt1 (sI μ34 a0 7 (μ34.1 a1 7)) fun μ35 => some (μ35)
set_option maxRecDepth 100000 in
set_option maxHeartbeats 4000000 in
theorem gl_X5_takeOver_28 {l : Launch} {Z : ZZ} {X : XX} (v0 : Nat) (v1 : Nat) (k0 : (zk Z v0).1 = 4) (k1 : (zk Z v1).1 = 4) (C : Cx l Z false X cX5_takeOver RX5 3 none) (E : xR X = rmm 2 0 0) : ∀ (n : Nat) (μ : Mm) (v2 : Int32) (y : Mm), f_X5_takeOver_l28 (zk Z) v0 v1 n μ v2 = some y → G Z X 3 0 0 55 [(0, .ref (za Z v0)), (1, .ref (za Z v1))] [] y → G Z X 3 0 0 28 [(0, .ref (za Z v0)), (1, .ref (za Z v1)), (2, .int v2)] [] μ := by
  intro n
  induction n with
  | zero => intro μ v2 y h he; unfold f_X5_takeOver_l28 at h; cases h
  | succ n ih =>
    intro μ v2 y h he
    unfold f_X5_takeOver_l28 at h
    refine g_iload_n C (i := 2) 2 rfl rfl (dk kX5_takeOver 15 rfl) ?_
    refine g_bipush C (v := 6) (by decide) (dk kX5_takeOver 16 rfl) ?_
    refine g_icmp_ge C (tgt := 55) (dk kX5_takeOver 17 rfl) (by decide) (fun c9 => ?_) (fun c9 => ?_)
    · replace h := ite_t h c9
      cases h
      exact g_sub [0, 1] rfl he
    · replace h := ite_f h c9
      refine g_aload_n C (i := 0) 0 rfl rfl (dk kX5_takeOver 18 rfl) ?_
      obtain ⟨b10, eb10, h⟩ := bd_inv h
      obtain ⟨rb10, kb10⟩ := rf_inv eb10
      refine gR_4_3 C k0 (C.w wd_1_163) rb10 (dk kX5_takeOver 19 rfl) ?_
      refine g_iload_n C (i := 2) 2 rfl rfl (dk kX5_takeOver 20 rfl) ?_
      obtain ⟨c11, h⟩ := gd_inv h
      obtain ⟨b12, eb12, h⟩ := bd_inv h
      obtain ⟨rb12, kb12⟩ := rf_inv eb12
      refine gA_10 C kb10 c11 rb12 (dk kX5_takeOver 21 rfl) ?_
      refine g_aload_n C (i := 1) 1 rfl rfl (dk kX5_takeOver 22 rfl) ?_
      obtain ⟨b13, eb13, h⟩ := bd_inv h
      obtain ⟨rb13, kb13⟩ := rf_inv eb13
      refine gR_4_3 C k1 (C.w wd_1_163) rb13 (dk kX5_takeOver 23 rfl) ?_
      refine g_iload_n C (i := 2) 2 rfl rfl (dk kX5_takeOver 24 rfl) ?_
      obtain ⟨c14, h⟩ := gd_inv h
      obtain ⟨b15, eb15, h⟩ := bd_inv h
      obtain ⟨rb15, kb15⟩ := rf_inv eb15
      refine gA_10 C kb13 c14 rb15 (dk kX5_takeOver 25 rfl) ?_
      obtain ⟨μ17, eq16, h⟩ := bd_inv h
      refine g_callV C E (rest := []) 1 (ct_X4_takeOver kb12 kb15 eq16) wd_2_100 mm_X4_takeOver ⟨rfl, by decide, by decide, by decide⟩ rfl (by decide) kb12 (by decide) rfl rfl (Nat.le_of_ble_eq_true rfl) (by decide) (dk kX5_takeOver 26 rfl) ?_
      obtain ⟨x18, ex18, h⟩ := lt_inv h
      refine g_iinc C (i := 2) (v := x18) (lv' := [(2, .int x18), (0, .ref (za Z v0)), (1, .ref (za Z v1))]) 2 (dk kX5_takeOver 27 rfl) rfl (by rw [ex18]; rfl) (by decide) rfl ?_
      refine g_goto C (tgt := 28) (dk kX5_takeOver 28 rfl) (by decide) ?_
      exact g_sub [1, 2, 0] rfl (ih μ17 x18 y h he)
set_option maxRecDepth 100000 in
set_option maxHeartbeats 4000000 in
theorem gl_X5_takeOver_65 {l : Launch} {Z : ZZ} {X : XX} (v0 : Nat) (v1 : Nat) (k0 : (zk Z v0).1 = 4) (k1 : (zk Z v1).1 = 4) (C : Cx l Z false X cX5_takeOver RX5 3 none) (E : xR X = rmm 2 0 0) : ∀ (n : Nat) (μ : Mm) (v2 : Int32) (y : Mm), f_X5_takeOver_l65 (zk Z) v0 v1 n μ v2 = some y → G Z X 3 0 0 92 [(0, .ref (za Z v0)), (1, .ref (za Z v1))] [] y → G Z X 3 0 0 65 [(0, .ref (za Z v0)), (1, .ref (za Z v1)), (2, .int v2)] [] μ := by
  intro n
  induction n with
  | zero => intro μ v2 y h he; unfold f_X5_takeOver_l65 at h; cases h
  | succ n ih =>
    intro μ v2 y h he
    unfold f_X5_takeOver_l65 at h
    refine g_iload_n C (i := 2) 2 rfl rfl (dk kX5_takeOver 35 rfl) ?_
    refine g_bipush C (v := 6) (by decide) (dk kX5_takeOver 36 rfl) ?_
    refine g_icmp_ge C (tgt := 92) (dk kX5_takeOver 37 rfl) (by decide) (fun c22 => ?_) (fun c22 => ?_)
    · replace h := ite_t h c22
      cases h
      exact g_sub [0, 1] rfl he
    · replace h := ite_f h c22
      refine g_aload_n C (i := 0) 0 rfl rfl (dk kX5_takeOver 38 rfl) ?_
      obtain ⟨b23, eb23, h⟩ := bd_inv h
      obtain ⟨rb23, kb23⟩ := rf_inv eb23
      refine gR_4_5 C k0 (C.w wd_1_166) rb23 (dk kX5_takeOver 39 rfl) ?_
      refine g_iload_n C (i := 2) 2 rfl rfl (dk kX5_takeOver 40 rfl) ?_
      obtain ⟨c24, h⟩ := gd_inv h
      obtain ⟨b25, eb25, h⟩ := bd_inv h
      obtain ⟨rb25, kb25⟩ := rf_inv eb25
      refine gA_9 C kb23 c24 rb25 (dk kX5_takeOver 41 rfl) ?_
      refine g_aload_n C (i := 1) 1 rfl rfl (dk kX5_takeOver 42 rfl) ?_
      obtain ⟨b26, eb26, h⟩ := bd_inv h
      obtain ⟨rb26, kb26⟩ := rf_inv eb26
      refine gR_4_5 C k1 (C.w wd_1_166) rb26 (dk kX5_takeOver 43 rfl) ?_
      refine g_iload_n C (i := 2) 2 rfl rfl (dk kX5_takeOver 44 rfl) ?_
      obtain ⟨c27, h⟩ := gd_inv h
      obtain ⟨b28, eb28, h⟩ := bd_inv h
      obtain ⟨rb28, kb28⟩ := rf_inv eb28
      refine gA_9 C kb26 c27 rb28 (dk kX5_takeOver 45 rfl) ?_
      obtain ⟨μ30, eq29, h⟩ := bd_inv h
      refine g_callV C E (rest := []) 1 (ct_X2_takeOver kb25 kb28 eq29) wd_2_105 mm_X2_takeOver ⟨rfl, by decide, by decide, by decide⟩ rfl (by decide) kb25 (by decide) rfl rfl (Nat.le_of_ble_eq_true rfl) (by decide) (dk kX5_takeOver 46 rfl) ?_
      obtain ⟨x31, ex31, h⟩ := lt_inv h
      refine g_iinc C (i := 2) (v := x31) (lv' := [(2, .int x31), (0, .ref (za Z v0)), (1, .ref (za Z v1))]) 2 (dk kX5_takeOver 47 rfl) rfl (by rw [ex31]; rfl) (by decide) rfl ?_
      refine g_goto C (tgt := 65) (dk kX5_takeOver 48 rfl) (by decide) ?_
      exact g_sub [1, 2, 0] rfl (ih μ30 x31 y h he)
set_option maxRecDepth 100000 in
set_option maxHeartbeats 4000000 in
theorem t_X5_takeOver {l : Launch} {Z : ZZ} {X : XX} (μ : Mm) (a0 : Nat) (a1 : Nat) (μ' : Mm) (k0 : (zk Z a0).1 = 4) (k1 : (zk Z a1).1 = 4) (h : f_X5_takeOver (zk Z) μ a0 a1 = some μ') (C : Cx l Z false X cX5_takeOver RX5 3 none) (E : Ex Z X 2 0 0 none Z μ') : G Z X 3 0 0 0 [(0, .ref (za Z a0)), (1, .ref (za Z a1))] [] μ := by
  unfold f_X5_takeOver at h
  refine g_aload_n C (i := 0) 0 rfl rfl (dk kX5_takeOver 0 rfl) ?_
  obtain ⟨b1, eb1, h⟩ := bd_inv h
  obtain ⟨rb1, kb1⟩ := rf_inv eb1
  refine gR_4_0 C k0 (C.w wd_1_159) rb1 (dk kX5_takeOver 1 rfl) ?_
  refine g_aload_n C (i := 1) 1 rfl rfl (dk kX5_takeOver 2 rfl) ?_
  obtain ⟨b2, eb2, h⟩ := bd_inv h
  obtain ⟨rb2, kb2⟩ := rf_inv eb2
  refine gR_4_0 C k1 (C.w wd_1_159) rb2 (dk kX5_takeOver 3 rfl) ?_
  obtain ⟨μ4, eq3, h⟩ := bd_inv h
  refine g_callV C E.2 (rest := []) 1 (ct_X3_takeOver kb1 kb2 eq3) wd_2_95 mm_X3_takeOver ⟨rfl, by decide, by decide, by decide⟩ rfl (by decide) kb1 (by decide) rfl rfl (Nat.le_of_ble_eq_true rfl) (by decide) (dk kX5_takeOver 4 rfl) ?_
  refine g_aload_n C (i := 1) 1 rfl rfl (dk kX5_takeOver 5 rfl) ?_
  obtain ⟨b5, eb5, h⟩ := bd_inv h
  obtain ⟨rb5, kb5⟩ := rf_inv eb5
  refine gR_4_2 C k1 (C.w wd_1_162) rb5 (dk kX5_takeOver 6 rfl) ?_
  refine g_iconst C (v := 0) (by decide) (dk kX5_takeOver 7 rfl) ?_
  refine g_aload_n C (i := 0) 0 rfl rfl (dk kX5_takeOver 8 rfl) ?_
  obtain ⟨b6, eb6, h⟩ := bd_inv h
  obtain ⟨rb6, kb6⟩ := rf_inv eb6
  refine gR_4_2 C k0 (C.w wd_1_162) rb6 (dk kX5_takeOver 9 rfl) ?_
  refine g_iconst C (v := 0) (by decide) (dk kX5_takeOver 10 rfl) ?_
  refine g_bipush C (v := 7) (by decide) (dk kX5_takeOver 11 rfl) ?_
  obtain ⟨c7, h⟩ := gd_inv h
  obtain ⟨μ8, eμ8, h⟩ := lt_inv h
  refine g_copy C E.2 kb5 kb6 c7 (by decide) (Nat.le_of_ble_eq_true rfl) (C.w wd_1_96) (C.w wd_1_98) (C.w wd_1_97) (C.w wd_1_7) eμ8 (dk kX5_takeOver 12 rfl) ?_
  refine g_iconst C (v := 0) (by decide) (dk kX5_takeOver 13 rfl) ?_
  refine g_istore_n C (i := 2) (lv' := [(2, .int 0), (0, .ref (za Z a0)), (1, .ref (za Z a1))]) (dk kX5_takeOver 14 rfl) rfl (by decide) rfl ?_
  obtain ⟨q19, eq19, h⟩ := bd_inv h
  refine g_sub [1, 2, 0] (lv' := [(0, .ref (za Z a0)), (1, .ref (za Z a1)), (2, .int 0)]) rfl ?_
  refine gl_X5_takeOver_28 a0 a1 k0 k1 C E.2 FU μ8 0 _ eq19 ?_
  obtain ⟨μ20, eμ20, h⟩ := lt_inv h
  rw [← eμ20]
  refine g_aload_n C (i := 0) 0 rfl rfl (dk kX5_takeOver 29 rfl) ?_
  refine g_aload_n C (i := 1) 1 rfl rfl (dk kX5_takeOver 30 rfl) ?_
  refine gI_4_4 C k1 (C.w wd_1_165) (dk kX5_takeOver 31 rfl) ?_
  obtain ⟨μ21, eμ21, h⟩ := lt_inv h
  refine pI_4_4 C k0 (C.w wd_1_165) eμ21 (dk kX5_takeOver 32 rfl) ?_
  refine g_iconst C (v := 0) (by decide) (dk kX5_takeOver 33 rfl) ?_
  refine g_istore_n C (i := 2) (lv' := [(2, .int 0), (0, .ref (za Z a0)), (1, .ref (za Z a1))]) (dk kX5_takeOver 34 rfl) rfl (by decide) rfl ?_
  obtain ⟨q32, eq32, h⟩ := bd_inv h
  refine g_sub [1, 2, 0] (lv' := [(0, .ref (za Z a0)), (1, .ref (za Z a1)), (2, .int 0)]) rfl ?_
  refine gl_X5_takeOver_65 a0 a1 k0 k1 C E.2 FU μ21 0 _ eq32 ?_
  obtain ⟨μ33, eμ33, h⟩ := lt_inv h
  rw [← eμ33]
  refine g_aload_n C (i := 0) 0 rfl rfl (dk kX5_takeOver 49 rfl) ?_
  refine g_aload_n C (i := 1) 1 rfl rfl (dk kX5_takeOver 50 rfl) ?_
  refine gI_4_6 C k1 (C.w wd_1_168) (dk kX5_takeOver 51 rfl) ?_
  obtain ⟨μ34, eμ34, h⟩ := lt_inv h
  refine pI_4_6 C k0 (C.w wd_1_168) eμ34 (dk kX5_takeOver 52 rfl) ?_
  refine g_aload_n C (i := 0) 0 rfl rfl (dk kX5_takeOver 53 rfl) ?_
  refine g_aload_n C (i := 1) 1 rfl rfl (dk kX5_takeOver 54 rfl) ?_
  refine gI_4_7 C k1 (C.w wd_1_169) (dk kX5_takeOver 55 rfl) ?_
  obtain ⟨μ35, eμ35, h⟩ := lt_inv h
  refine pI_4_7 C k0 (C.w wd_1_169) eμ35 (dk kX5_takeOver 56 rfl) ?_
  have h9 := Option.some.inj h
  subst h9
  exact g_vret C E (Nat.le_refl 0) (Nat.le_refl 0) (dk kX5_takeOver 57 rfl)
theorem ct_X5_takeOver {l : Launch} {Z : ZZ} {μ : Mm} {a0 : Nat} {a1 : Nat} {μ' : Mm} (k0 : (zk Z a0).1 = 4) (k1 : (zk Z a1).1 = 4) (h : f_X5_takeOver (zk Z) μ a0 a1 = some μ') : CtM l Z false yX5_takeOver cX5_takeOver 3 none 2 0 0 [.ref (za Z a0), .ref (za Z a1)] μ none Z μ' := ct_of rfl rfl (Nat.le_of_ble_eq_true rfl) (fun X C E => t_X5_takeOver μ a0 a1 μ' k0 k1 h C E)

def qX5_wholeValue : List (Nat × Instr × Nat) := [(0, .iload_n 1, 1), (1, .iconst 1, 1), (2, .if_icmp .lt 18, 3), (5, .iload_n 1, 1), (6, .bipush 7, 2), (8, .if_icmp .gt 12, 3), (11, .aload_n 0, 1), (12, .getfield 18, 3), (15, .iload_n 1, 1), (16, .iconst 1, 1), (17, .isub, 1), (18, .iaload, 1), (19, .ireturn, 1), (20, .iload_n 1, 1), (21, .tableswitch 130 0 15 #[79, 130, 130, 130, 130, 130, 130, 130, 87, 92, 97, 102, 110, 115, 120, 125], 79), (100, .aload_n 0, 1), (101, .getfield 12, 3), (104, .getfield 68, 3), (107, .ireturn, 1), (108, .aload_n 0, 1), (109, .getfield 55, 3), (112, .ireturn, 1), (113, .aload_n 0, 1), (114, .getfield 62, 3), (117, .ireturn, 1), (118, .aload_n 0, 1), (119, .invokevirtual 71, 3), (122, .ireturn, 1), (123, .aload_n 0, 1), (124, .getfield 12, 3), (127, .getfield 194, 3), (130, .ireturn, 1), (131, .aload_n 0, 1), (132, .invokevirtual 197, 3), (135, .ireturn, 1), (136, .aload_n 0, 1), (137, .invokevirtual 200, 3), (140, .ireturn, 1), (141, .aload_n 0, 1), (142, .invokevirtual 203, 3), (145, .ireturn, 1), (146, .aload_n 0, 1), (147, .invokevirtual 132, 3), (150, .ireturn, 1), (151, .aload_n 0, 1), (152, .getfield 65, 3), (155, .ireturn, 1)]
theorem kX5_wholeValue : ∀ q ∈ qX5_wholeValue, decode cX5_wholeValue q.1 = .ok q.2 := by decide +kernel
def f_X5_wholeValue (K : Nat → Nat × Nat) (μ : Mm) (a0 : Nat) (a1 : Int32) : Option (Int32) :=
  if a1 < 1 then (if a1 = 0 then (bd (rf K μ a0 0 2) fun b3 => some (μ.1 b3 0)) else (if a1 = 1 then (some (μ.1 a0 7)) else (if a1 = 2 then (some (μ.1 a0 7)) else (if a1 = 3 then (some (μ.1 a0 7)) else (if a1 = 4 then (some (μ.1 a0 7)) else (if a1 = 5 then (some (μ.1 a0 7)) else (if a1 = 6 then (some (μ.1 a0 7)) else (if a1 = 7 then (some (μ.1 a0 7)) else (if a1 = 8 then (some (μ.1 a0 4)) else (if a1 = 9 then (some (μ.1 a0 6)) else (if a1 = 10 then (bd (f_X5_allWear K μ a0) fun x15 => some x15) else (if a1 = 11 then (bd (rf K μ a0 0 2) fun b17 => some (μ.1 b17 1)) else (if a1 = 12 then (bd (f_X5_allPrinted K μ a0) fun x20 => some x20) else (if a1 = 13 then (bd (f_X5_allFailed K μ a0) fun x23 => some x23) else (if a1 = 14 then (bd (f_X5_allEarned K μ a0) fun x26 => some x26) else (if a1 = 15 then (bd (f_X5_allRented K μ a0) fun x29 => some x29) else (some (μ.1 a0 7)))))))))))))))))) else (if 7 < a1 then (if a1 = 0 then (bd (rf K μ a0 0 2) fun b32 => some (μ.1 b32 0)) else (if a1 = 1 then (some (μ.1 a0 7)) else (if a1 = 2 then (some (μ.1 a0 7)) else (if a1 = 3 then (some (μ.1 a0 7)) else (if a1 = 4 then (some (μ.1 a0 7)) else (if a1 = 5 then (some (μ.1 a0 7)) else (if a1 = 6 then (some (μ.1 a0 7)) else (if a1 = 7 then (some (μ.1 a0 7)) else (if a1 = 8 then (some (μ.1 a0 4)) else (if a1 = 9 then (some (μ.1 a0 6)) else (if a1 = 10 then (bd (f_X5_allWear K μ a0) fun x44 => some x44) else (if a1 = 11 then (bd (rf K μ a0 0 2) fun b46 => some (μ.1 b46 1)) else (if a1 = 12 then (bd (f_X5_allPrinted K μ a0) fun x49 => some x49) else (if a1 = 13 then (bd (f_X5_allFailed K μ a0) fun x52 => some x52) else (if a1 = 14 then (bd (f_X5_allEarned K μ a0) fun x55 => some x55) else (if a1 = 15 then (bd (f_X5_allRented K μ a0) fun x58 => some x58) else (some (μ.1 a0 7)))))))))))))))))) else (bd (rf K μ a0 2 8) fun b59 => gd (inb (a1 - 1) (K b59).2) <| some (μ.1 b59 (ix (a1 - 1)))))
set_option maxRecDepth 100000 in
set_option maxHeartbeats 4000000 in
theorem t_X5_wholeValue {l : Launch} {Z : ZZ} {X : XX} (μ : Mm) (a0 : Nat) (a1 : Int32) (r : Int32) (k0 : (zk Z a0).1 = 4) (h : f_X5_wholeValue (zk Z) μ a0 a1 = some r) (C : Cx l Z false X cX5_wholeValue RX5 2 (some .int)) (E : Ex Z X 2 0 0 (some (.int r)) Z μ) : G Z X 2 0 0 0 [(0, .ref (za Z a0)), (1, .int a1)] [] μ := by
  unfold f_X5_wholeValue at h
  refine g_iload_n C (i := 1) 1 rfl rfl (dk kX5_wholeValue 0 rfl) ?_
  refine g_iconst C (v := 1) (by decide) (dk kX5_wholeValue 1 rfl) ?_
  refine g_icmp_lt C (tgt := 20) (dk kX5_wholeValue 2 rfl) (by decide) (fun c1 => ?_) (fun c1 => ?_)
  · replace h := ite_t h c1
    refine g_iload_n C (i := 1) 1 rfl rfl (dk kX5_wholeValue 13 rfl) ?_
    by_cases c2 : a1 = 0
    · replace h := ite_t h c2
      refine g_tin C (tgt := 100) (dk kX5_wholeValue 14 rfl) (by rw [c2]; decide) (by rw [c2]; decide) (by rw [c2]; rfl) (by decide) ?_
      refine g_aload_n C (i := 0) 0 rfl rfl (dk kX5_wholeValue 15 rfl) ?_
      obtain ⟨b3, eb3, h⟩ := bd_inv h
      obtain ⟨rb3, kb3⟩ := rf_inv eb3
      refine gR_4_0 C k0 (C.w wd_1_159) rb3 (dk kX5_wholeValue 16 rfl) ?_
      refine gIN_2_0 C kb3 (nf_1 C) (dk kX5_wholeValue 17 rfl) ?_
      have h9 := Option.some.inj h
      subst h9
      exact g_iret C E rfl rfl (Nat.le_refl 0) (Nat.le_refl 0) (dk kX5_wholeValue 18 rfl)
    · replace h := ite_f h c2
      by_cases c4 : a1 = 1
      · replace h := ite_t h c4
        refine g_tin C (tgt := 151) (dk kX5_wholeValue 14 rfl) (by rw [c4]; decide) (by rw [c4]; decide) (by rw [c4]; rfl) (by decide) ?_
        refine g_aload_n C (i := 0) 0 rfl rfl (dk kX5_wholeValue 44 rfl) ?_
        refine gI_4_7 C k0 (C.w wd_1_169) (dk kX5_wholeValue 45 rfl) ?_
        have h9 := Option.some.inj h
        subst h9
        exact g_iret C E rfl rfl (Nat.le_refl 0) (Nat.le_refl 0) (dk kX5_wholeValue 46 rfl)
      · replace h := ite_f h c4
        by_cases c5 : a1 = 2
        · replace h := ite_t h c5
          refine g_tin C (tgt := 151) (dk kX5_wholeValue 14 rfl) (by rw [c5]; decide) (by rw [c5]; decide) (by rw [c5]; rfl) (by decide) ?_
          refine g_aload_n C (i := 0) 0 rfl rfl (dk kX5_wholeValue 44 rfl) ?_
          refine gI_4_7 C k0 (C.w wd_1_169) (dk kX5_wholeValue 45 rfl) ?_
          have h9 := Option.some.inj h
          subst h9
          exact g_iret C E rfl rfl (Nat.le_refl 0) (Nat.le_refl 0) (dk kX5_wholeValue 46 rfl)
        · replace h := ite_f h c5
          by_cases c6 : a1 = 3
          · replace h := ite_t h c6
            refine g_tin C (tgt := 151) (dk kX5_wholeValue 14 rfl) (by rw [c6]; decide) (by rw [c6]; decide) (by rw [c6]; rfl) (by decide) ?_
            refine g_aload_n C (i := 0) 0 rfl rfl (dk kX5_wholeValue 44 rfl) ?_
            refine gI_4_7 C k0 (C.w wd_1_169) (dk kX5_wholeValue 45 rfl) ?_
            have h9 := Option.some.inj h
            subst h9
            exact g_iret C E rfl rfl (Nat.le_refl 0) (Nat.le_refl 0) (dk kX5_wholeValue 46 rfl)
          · replace h := ite_f h c6
            by_cases c7 : a1 = 4
            · replace h := ite_t h c7
              refine g_tin C (tgt := 151) (dk kX5_wholeValue 14 rfl) (by rw [c7]; decide) (by rw [c7]; decide) (by rw [c7]; rfl) (by decide) ?_
              refine g_aload_n C (i := 0) 0 rfl rfl (dk kX5_wholeValue 44 rfl) ?_
              refine gI_4_7 C k0 (C.w wd_1_169) (dk kX5_wholeValue 45 rfl) ?_
              have h9 := Option.some.inj h
              subst h9
              exact g_iret C E rfl rfl (Nat.le_refl 0) (Nat.le_refl 0) (dk kX5_wholeValue 46 rfl)
            · replace h := ite_f h c7
              by_cases c8 : a1 = 5
              · replace h := ite_t h c8
                refine g_tin C (tgt := 151) (dk kX5_wholeValue 14 rfl) (by rw [c8]; decide) (by rw [c8]; decide) (by rw [c8]; rfl) (by decide) ?_
                refine g_aload_n C (i := 0) 0 rfl rfl (dk kX5_wholeValue 44 rfl) ?_
                refine gI_4_7 C k0 (C.w wd_1_169) (dk kX5_wholeValue 45 rfl) ?_
                have h9 := Option.some.inj h
                subst h9
                exact g_iret C E rfl rfl (Nat.le_refl 0) (Nat.le_refl 0) (dk kX5_wholeValue 46 rfl)
              · replace h := ite_f h c8
                by_cases c9 : a1 = 6
                · replace h := ite_t h c9
                  refine g_tin C (tgt := 151) (dk kX5_wholeValue 14 rfl) (by rw [c9]; decide) (by rw [c9]; decide) (by rw [c9]; rfl) (by decide) ?_
                  refine g_aload_n C (i := 0) 0 rfl rfl (dk kX5_wholeValue 44 rfl) ?_
                  refine gI_4_7 C k0 (C.w wd_1_169) (dk kX5_wholeValue 45 rfl) ?_
                  have h9 := Option.some.inj h
                  subst h9
                  exact g_iret C E rfl rfl (Nat.le_refl 0) (Nat.le_refl 0) (dk kX5_wholeValue 46 rfl)
                · replace h := ite_f h c9
                  by_cases c10 : a1 = 7
                  · replace h := ite_t h c10
                    refine g_tin C (tgt := 151) (dk kX5_wholeValue 14 rfl) (by rw [c10]; decide) (by rw [c10]; decide) (by rw [c10]; rfl) (by decide) ?_
                    refine g_aload_n C (i := 0) 0 rfl rfl (dk kX5_wholeValue 44 rfl) ?_
                    refine gI_4_7 C k0 (C.w wd_1_169) (dk kX5_wholeValue 45 rfl) ?_
                    have h9 := Option.some.inj h
                    subst h9
                    exact g_iret C E rfl rfl (Nat.le_refl 0) (Nat.le_refl 0) (dk kX5_wholeValue 46 rfl)
                  · replace h := ite_f h c10
                    by_cases c11 : a1 = 8
                    · replace h := ite_t h c11
                      refine g_tin C (tgt := 108) (dk kX5_wholeValue 14 rfl) (by rw [c11]; decide) (by rw [c11]; decide) (by rw [c11]; rfl) (by decide) ?_
                      refine g_aload_n C (i := 0) 0 rfl rfl (dk kX5_wholeValue 19 rfl) ?_
                      refine gI_4_4 C k0 (C.w wd_1_165) (dk kX5_wholeValue 20 rfl) ?_
                      have h9 := Option.some.inj h
                      subst h9
                      exact g_iret C E rfl rfl (Nat.le_refl 0) (Nat.le_refl 0) (dk kX5_wholeValue 21 rfl)
                    · replace h := ite_f h c11
                      by_cases c12 : a1 = 9
                      · replace h := ite_t h c12
                        refine g_tin C (tgt := 113) (dk kX5_wholeValue 14 rfl) (by rw [c12]; decide) (by rw [c12]; decide) (by rw [c12]; rfl) (by decide) ?_
                        refine g_aload_n C (i := 0) 0 rfl rfl (dk kX5_wholeValue 22 rfl) ?_
                        refine gI_4_6 C k0 (C.w wd_1_168) (dk kX5_wholeValue 23 rfl) ?_
                        have h9 := Option.some.inj h
                        subst h9
                        exact g_iret C E rfl rfl (Nat.le_refl 0) (Nat.le_refl 0) (dk kX5_wholeValue 24 rfl)
                      · replace h := ite_f h c12
                        by_cases c13 : a1 = 10
                        · replace h := ite_t h c13
                          refine g_tin C (tgt := 118) (dk kX5_wholeValue 14 rfl) (by rw [c13]; decide) (by rw [c13]; decide) (by rw [c13]; rfl) (by decide) ?_
                          refine g_aload_n C (i := 0) 0 rfl rfl (dk kX5_wholeValue 25 rfl) ?_
                          obtain ⟨x15, eq14, h⟩ := bd_inv h
                          refine g_callV C E.2 (rest := []) 0 (ct_X5_allWear k0 eq14) wd_2_113 mm_X5_allWear ⟨rfl, by decide, by decide, by decide⟩ rfl (by decide) k0 (by decide) rfl rfl (Nat.le_of_ble_eq_true rfl) (by decide) (dk kX5_wholeValue 26 rfl) ?_
                          have h9 := Option.some.inj h
                          subst h9
                          exact g_iret C E rfl rfl (Nat.le_refl 0) (Nat.le_refl 0) (dk kX5_wholeValue 27 rfl)
                        · replace h := ite_f h c13
                          by_cases c16 : a1 = 11
                          · replace h := ite_t h c16
                            refine g_tin C (tgt := 123) (dk kX5_wholeValue 14 rfl) (by rw [c16]; decide) (by rw [c16]; decide) (by rw [c16]; rfl) (by decide) ?_
                            refine g_aload_n C (i := 0) 0 rfl rfl (dk kX5_wholeValue 28 rfl) ?_
                            obtain ⟨b17, eb17, h⟩ := bd_inv h
                            obtain ⟨rb17, kb17⟩ := rf_inv eb17
                            refine gR_4_0 C k0 (C.w wd_1_159) rb17 (dk kX5_wholeValue 29 rfl) ?_
                            refine gIN_2_1 C kb17 (nf_2 C) (dk kX5_wholeValue 30 rfl) ?_
                            have h9 := Option.some.inj h
                            subst h9
                            exact g_iret C E rfl rfl (Nat.le_refl 0) (Nat.le_refl 0) (dk kX5_wholeValue 31 rfl)
                          · replace h := ite_f h c16
                            by_cases c18 : a1 = 12
                            · replace h := ite_t h c18
                              refine g_tin C (tgt := 131) (dk kX5_wholeValue 14 rfl) (by rw [c18]; decide) (by rw [c18]; decide) (by rw [c18]; rfl) (by decide) ?_
                              refine g_aload_n C (i := 0) 0 rfl rfl (dk kX5_wholeValue 32 rfl) ?_
                              obtain ⟨x20, eq19, h⟩ := bd_inv h
                              refine g_callV C E.2 (rest := []) 0 (ct_X5_allPrinted k0 eq19) wd_3_226 mm_X5_allPrinted ⟨rfl, by decide, by decide, by decide⟩ rfl (by decide) k0 (by decide) rfl rfl (Nat.le_of_ble_eq_true rfl) (by decide) (dk kX5_wholeValue 33 rfl) ?_
                              have h9 := Option.some.inj h
                              subst h9
                              exact g_iret C E rfl rfl (Nat.le_refl 0) (Nat.le_refl 0) (dk kX5_wholeValue 34 rfl)
                            · replace h := ite_f h c18
                              by_cases c21 : a1 = 13
                              · replace h := ite_t h c21
                                refine g_tin C (tgt := 136) (dk kX5_wholeValue 14 rfl) (by rw [c21]; decide) (by rw [c21]; decide) (by rw [c21]; rfl) (by decide) ?_
                                refine g_aload_n C (i := 0) 0 rfl rfl (dk kX5_wholeValue 35 rfl) ?_
                                obtain ⟨x23, eq22, h⟩ := bd_inv h
                                refine g_callV C E.2 (rest := []) 0 (ct_X5_allFailed k0 eq22) wd_3_230 mm_X5_allFailed ⟨rfl, by decide, by decide, by decide⟩ rfl (by decide) k0 (by decide) rfl rfl (Nat.le_of_ble_eq_true rfl) (by decide) (dk kX5_wholeValue 36 rfl) ?_
                                have h9 := Option.some.inj h
                                subst h9
                                exact g_iret C E rfl rfl (Nat.le_refl 0) (Nat.le_refl 0) (dk kX5_wholeValue 37 rfl)
                              · replace h := ite_f h c21
                                by_cases c24 : a1 = 14
                                · replace h := ite_t h c24
                                  refine g_tin C (tgt := 141) (dk kX5_wholeValue 14 rfl) (by rw [c24]; decide) (by rw [c24]; decide) (by rw [c24]; rfl) (by decide) ?_
                                  refine g_aload_n C (i := 0) 0 rfl rfl (dk kX5_wholeValue 38 rfl) ?_
                                  obtain ⟨x26, eq25, h⟩ := bd_inv h
                                  refine g_callV C E.2 (rest := []) 0 (ct_X5_allEarned k0 eq25) wd_3_234 mm_X5_allEarned ⟨rfl, by decide, by decide, by decide⟩ rfl (by decide) k0 (by decide) rfl rfl (Nat.le_of_ble_eq_true rfl) (by decide) (dk kX5_wholeValue 39 rfl) ?_
                                  have h9 := Option.some.inj h
                                  subst h9
                                  exact g_iret C E rfl rfl (Nat.le_refl 0) (Nat.le_refl 0) (dk kX5_wholeValue 40 rfl)
                                · replace h := ite_f h c24
                                  by_cases c27 : a1 = 15
                                  · replace h := ite_t h c27
                                    refine g_tin C (tgt := 146) (dk kX5_wholeValue 14 rfl) (by rw [c27]; decide) (by rw [c27]; decide) (by rw [c27]; rfl) (by decide) ?_
                                    refine g_aload_n C (i := 0) 0 rfl rfl (dk kX5_wholeValue 41 rfl) ?_
                                    obtain ⟨x29, eq28, h⟩ := bd_inv h
                                    refine g_callV C E.2 (rest := []) 0 (ct_X5_allRented k0 eq28) wd_3_62 mm_X5_allRented ⟨rfl, by decide, by decide, by decide⟩ rfl (by decide) k0 (by decide) rfl rfl (Nat.le_of_ble_eq_true rfl) (by decide) (dk kX5_wholeValue 42 rfl) ?_
                                    have h9 := Option.some.inj h
                                    subst h9
                                    exact g_iret C E rfl rfl (Nat.le_refl 0) (Nat.le_refl 0) (dk kX5_wholeValue 43 rfl)
                                  · replace h := ite_f h c27
                                    refine g_tout C (tgt := 151) (dk kX5_wholeValue 14 rfl) (by have q0 := lv_neT c2 (a := 0) (by decide); have q1 := lv_neT c4 (a := 1) (by decide); have q2 := lv_neT c5 (a := 2) (by decide); have q3 := lv_neT c6 (a := 3) (by decide); have q4 := lv_neT c7 (a := 4) (by decide); have q5 := lv_neT c8 (a := 5) (by decide); have q6 := lv_neT c9 (a := 6) (by decide); have q7 := lv_neT c10 (a := 7) (by decide); have q8 := lv_neT c11 (a := 8) (by decide); have q9 := lv_neT c12 (a := 9) (by decide); have q10 := lv_neT c13 (a := 10) (by decide); have q11 := lv_neT c16 (a := 11) (by decide); have q12 := lv_neT c18 (a := 12) (by decide); have q13 := lv_neT c21 (a := 13) (by decide); have q14 := lv_neT c24 (a := 14) (by decide); have q15 := lv_neT c27 (a := 15) (by decide); omega) (by decide) ?_
                                    refine g_aload_n C (i := 0) 0 rfl rfl (dk kX5_wholeValue 44 rfl) ?_
                                    refine gI_4_7 C k0 (C.w wd_1_169) (dk kX5_wholeValue 45 rfl) ?_
                                    have h9 := Option.some.inj h
                                    subst h9
                                    exact g_iret C E rfl rfl (Nat.le_refl 0) (Nat.le_refl 0) (dk kX5_wholeValue 46 rfl)
  · replace h := ite_f h c1
    refine g_iload_n C (i := 1) 1 rfl rfl (dk kX5_wholeValue 3 rfl) ?_
    refine g_bipush C (v := 7) (by decide) (dk kX5_wholeValue 4 rfl) ?_
    refine g_icmp_gt C (tgt := 20) (dk kX5_wholeValue 5 rfl) (by decide) (fun c30 => ?_) (fun c30 => ?_)
    · replace h := ite_t h c30
      refine g_iload_n C (i := 1) 1 rfl rfl (dk kX5_wholeValue 13 rfl) ?_
      by_cases c31 : a1 = 0
      · replace h := ite_t h c31
        refine g_tin C (tgt := 100) (dk kX5_wholeValue 14 rfl) (by rw [c31]; decide) (by rw [c31]; decide) (by rw [c31]; rfl) (by decide) ?_
        refine g_aload_n C (i := 0) 0 rfl rfl (dk kX5_wholeValue 15 rfl) ?_
        obtain ⟨b32, eb32, h⟩ := bd_inv h
        obtain ⟨rb32, kb32⟩ := rf_inv eb32
        refine gR_4_0 C k0 (C.w wd_1_159) rb32 (dk kX5_wholeValue 16 rfl) ?_
        refine gIN_2_0 C kb32 (nf_1 C) (dk kX5_wholeValue 17 rfl) ?_
        have h9 := Option.some.inj h
        subst h9
        exact g_iret C E rfl rfl (Nat.le_refl 0) (Nat.le_refl 0) (dk kX5_wholeValue 18 rfl)
      · replace h := ite_f h c31
        by_cases c33 : a1 = 1
        · replace h := ite_t h c33
          refine g_tin C (tgt := 151) (dk kX5_wholeValue 14 rfl) (by rw [c33]; decide) (by rw [c33]; decide) (by rw [c33]; rfl) (by decide) ?_
          refine g_aload_n C (i := 0) 0 rfl rfl (dk kX5_wholeValue 44 rfl) ?_
          refine gI_4_7 C k0 (C.w wd_1_169) (dk kX5_wholeValue 45 rfl) ?_
          have h9 := Option.some.inj h
          subst h9
          exact g_iret C E rfl rfl (Nat.le_refl 0) (Nat.le_refl 0) (dk kX5_wholeValue 46 rfl)
        · replace h := ite_f h c33
          by_cases c34 : a1 = 2
          · replace h := ite_t h c34
            refine g_tin C (tgt := 151) (dk kX5_wholeValue 14 rfl) (by rw [c34]; decide) (by rw [c34]; decide) (by rw [c34]; rfl) (by decide) ?_
            refine g_aload_n C (i := 0) 0 rfl rfl (dk kX5_wholeValue 44 rfl) ?_
            refine gI_4_7 C k0 (C.w wd_1_169) (dk kX5_wholeValue 45 rfl) ?_
            have h9 := Option.some.inj h
            subst h9
            exact g_iret C E rfl rfl (Nat.le_refl 0) (Nat.le_refl 0) (dk kX5_wholeValue 46 rfl)
          · replace h := ite_f h c34
            by_cases c35 : a1 = 3
            · replace h := ite_t h c35
              refine g_tin C (tgt := 151) (dk kX5_wholeValue 14 rfl) (by rw [c35]; decide) (by rw [c35]; decide) (by rw [c35]; rfl) (by decide) ?_
              refine g_aload_n C (i := 0) 0 rfl rfl (dk kX5_wholeValue 44 rfl) ?_
              refine gI_4_7 C k0 (C.w wd_1_169) (dk kX5_wholeValue 45 rfl) ?_
              have h9 := Option.some.inj h
              subst h9
              exact g_iret C E rfl rfl (Nat.le_refl 0) (Nat.le_refl 0) (dk kX5_wholeValue 46 rfl)
            · replace h := ite_f h c35
              by_cases c36 : a1 = 4
              · replace h := ite_t h c36
                refine g_tin C (tgt := 151) (dk kX5_wholeValue 14 rfl) (by rw [c36]; decide) (by rw [c36]; decide) (by rw [c36]; rfl) (by decide) ?_
                refine g_aload_n C (i := 0) 0 rfl rfl (dk kX5_wholeValue 44 rfl) ?_
                refine gI_4_7 C k0 (C.w wd_1_169) (dk kX5_wholeValue 45 rfl) ?_
                have h9 := Option.some.inj h
                subst h9
                exact g_iret C E rfl rfl (Nat.le_refl 0) (Nat.le_refl 0) (dk kX5_wholeValue 46 rfl)
              · replace h := ite_f h c36
                by_cases c37 : a1 = 5
                · replace h := ite_t h c37
                  refine g_tin C (tgt := 151) (dk kX5_wholeValue 14 rfl) (by rw [c37]; decide) (by rw [c37]; decide) (by rw [c37]; rfl) (by decide) ?_
                  refine g_aload_n C (i := 0) 0 rfl rfl (dk kX5_wholeValue 44 rfl) ?_
                  refine gI_4_7 C k0 (C.w wd_1_169) (dk kX5_wholeValue 45 rfl) ?_
                  have h9 := Option.some.inj h
                  subst h9
                  exact g_iret C E rfl rfl (Nat.le_refl 0) (Nat.le_refl 0) (dk kX5_wholeValue 46 rfl)
                · replace h := ite_f h c37
                  by_cases c38 : a1 = 6
                  · replace h := ite_t h c38
                    refine g_tin C (tgt := 151) (dk kX5_wholeValue 14 rfl) (by rw [c38]; decide) (by rw [c38]; decide) (by rw [c38]; rfl) (by decide) ?_
                    refine g_aload_n C (i := 0) 0 rfl rfl (dk kX5_wholeValue 44 rfl) ?_
                    refine gI_4_7 C k0 (C.w wd_1_169) (dk kX5_wholeValue 45 rfl) ?_
                    have h9 := Option.some.inj h
                    subst h9
                    exact g_iret C E rfl rfl (Nat.le_refl 0) (Nat.le_refl 0) (dk kX5_wholeValue 46 rfl)
                  · replace h := ite_f h c38
                    by_cases c39 : a1 = 7
                    · replace h := ite_t h c39
                      refine g_tin C (tgt := 151) (dk kX5_wholeValue 14 rfl) (by rw [c39]; decide) (by rw [c39]; decide) (by rw [c39]; rfl) (by decide) ?_
                      refine g_aload_n C (i := 0) 0 rfl rfl (dk kX5_wholeValue 44 rfl) ?_
                      refine gI_4_7 C k0 (C.w wd_1_169) (dk kX5_wholeValue 45 rfl) ?_
                      have h9 := Option.some.inj h
                      subst h9
                      exact g_iret C E rfl rfl (Nat.le_refl 0) (Nat.le_refl 0) (dk kX5_wholeValue 46 rfl)
                    · replace h := ite_f h c39
                      by_cases c40 : a1 = 8
                      · replace h := ite_t h c40
                        refine g_tin C (tgt := 108) (dk kX5_wholeValue 14 rfl) (by rw [c40]; decide) (by rw [c40]; decide) (by rw [c40]; rfl) (by decide) ?_
                        refine g_aload_n C (i := 0) 0 rfl rfl (dk kX5_wholeValue 19 rfl) ?_
                        refine gI_4_4 C k0 (C.w wd_1_165) (dk kX5_wholeValue 20 rfl) ?_
                        have h9 := Option.some.inj h
                        subst h9
                        exact g_iret C E rfl rfl (Nat.le_refl 0) (Nat.le_refl 0) (dk kX5_wholeValue 21 rfl)
                      · replace h := ite_f h c40
                        by_cases c41 : a1 = 9
                        · replace h := ite_t h c41
                          refine g_tin C (tgt := 113) (dk kX5_wholeValue 14 rfl) (by rw [c41]; decide) (by rw [c41]; decide) (by rw [c41]; rfl) (by decide) ?_
                          refine g_aload_n C (i := 0) 0 rfl rfl (dk kX5_wholeValue 22 rfl) ?_
                          refine gI_4_6 C k0 (C.w wd_1_168) (dk kX5_wholeValue 23 rfl) ?_
                          have h9 := Option.some.inj h
                          subst h9
                          exact g_iret C E rfl rfl (Nat.le_refl 0) (Nat.le_refl 0) (dk kX5_wholeValue 24 rfl)
                        · replace h := ite_f h c41
                          by_cases c42 : a1 = 10
                          · replace h := ite_t h c42
                            refine g_tin C (tgt := 118) (dk kX5_wholeValue 14 rfl) (by rw [c42]; decide) (by rw [c42]; decide) (by rw [c42]; rfl) (by decide) ?_
                            refine g_aload_n C (i := 0) 0 rfl rfl (dk kX5_wholeValue 25 rfl) ?_
                            obtain ⟨x44, eq43, h⟩ := bd_inv h
                            refine g_callV C E.2 (rest := []) 0 (ct_X5_allWear k0 eq43) wd_2_113 mm_X5_allWear ⟨rfl, by decide, by decide, by decide⟩ rfl (by decide) k0 (by decide) rfl rfl (Nat.le_of_ble_eq_true rfl) (by decide) (dk kX5_wholeValue 26 rfl) ?_
                            have h9 := Option.some.inj h
                            subst h9
                            exact g_iret C E rfl rfl (Nat.le_refl 0) (Nat.le_refl 0) (dk kX5_wholeValue 27 rfl)
                          · replace h := ite_f h c42
                            by_cases c45 : a1 = 11
                            · replace h := ite_t h c45
                              refine g_tin C (tgt := 123) (dk kX5_wholeValue 14 rfl) (by rw [c45]; decide) (by rw [c45]; decide) (by rw [c45]; rfl) (by decide) ?_
                              refine g_aload_n C (i := 0) 0 rfl rfl (dk kX5_wholeValue 28 rfl) ?_
                              obtain ⟨b46, eb46, h⟩ := bd_inv h
                              obtain ⟨rb46, kb46⟩ := rf_inv eb46
                              refine gR_4_0 C k0 (C.w wd_1_159) rb46 (dk kX5_wholeValue 29 rfl) ?_
                              refine gIN_2_1 C kb46 (nf_2 C) (dk kX5_wholeValue 30 rfl) ?_
                              have h9 := Option.some.inj h
                              subst h9
                              exact g_iret C E rfl rfl (Nat.le_refl 0) (Nat.le_refl 0) (dk kX5_wholeValue 31 rfl)
                            · replace h := ite_f h c45
                              by_cases c47 : a1 = 12
                              · replace h := ite_t h c47
                                refine g_tin C (tgt := 131) (dk kX5_wholeValue 14 rfl) (by rw [c47]; decide) (by rw [c47]; decide) (by rw [c47]; rfl) (by decide) ?_
                                refine g_aload_n C (i := 0) 0 rfl rfl (dk kX5_wholeValue 32 rfl) ?_
                                obtain ⟨x49, eq48, h⟩ := bd_inv h
                                refine g_callV C E.2 (rest := []) 0 (ct_X5_allPrinted k0 eq48) wd_3_226 mm_X5_allPrinted ⟨rfl, by decide, by decide, by decide⟩ rfl (by decide) k0 (by decide) rfl rfl (Nat.le_of_ble_eq_true rfl) (by decide) (dk kX5_wholeValue 33 rfl) ?_
                                have h9 := Option.some.inj h
                                subst h9
                                exact g_iret C E rfl rfl (Nat.le_refl 0) (Nat.le_refl 0) (dk kX5_wholeValue 34 rfl)
                              · replace h := ite_f h c47
                                by_cases c50 : a1 = 13
                                · replace h := ite_t h c50
                                  refine g_tin C (tgt := 136) (dk kX5_wholeValue 14 rfl) (by rw [c50]; decide) (by rw [c50]; decide) (by rw [c50]; rfl) (by decide) ?_
                                  refine g_aload_n C (i := 0) 0 rfl rfl (dk kX5_wholeValue 35 rfl) ?_
                                  obtain ⟨x52, eq51, h⟩ := bd_inv h
                                  refine g_callV C E.2 (rest := []) 0 (ct_X5_allFailed k0 eq51) wd_3_230 mm_X5_allFailed ⟨rfl, by decide, by decide, by decide⟩ rfl (by decide) k0 (by decide) rfl rfl (Nat.le_of_ble_eq_true rfl) (by decide) (dk kX5_wholeValue 36 rfl) ?_
                                  have h9 := Option.some.inj h
                                  subst h9
                                  exact g_iret C E rfl rfl (Nat.le_refl 0) (Nat.le_refl 0) (dk kX5_wholeValue 37 rfl)
                                · replace h := ite_f h c50
                                  by_cases c53 : a1 = 14
                                  · replace h := ite_t h c53
                                    refine g_tin C (tgt := 141) (dk kX5_wholeValue 14 rfl) (by rw [c53]; decide) (by rw [c53]; decide) (by rw [c53]; rfl) (by decide) ?_
                                    refine g_aload_n C (i := 0) 0 rfl rfl (dk kX5_wholeValue 38 rfl) ?_
                                    obtain ⟨x55, eq54, h⟩ := bd_inv h
                                    refine g_callV C E.2 (rest := []) 0 (ct_X5_allEarned k0 eq54) wd_3_234 mm_X5_allEarned ⟨rfl, by decide, by decide, by decide⟩ rfl (by decide) k0 (by decide) rfl rfl (Nat.le_of_ble_eq_true rfl) (by decide) (dk kX5_wholeValue 39 rfl) ?_
                                    have h9 := Option.some.inj h
                                    subst h9
                                    exact g_iret C E rfl rfl (Nat.le_refl 0) (Nat.le_refl 0) (dk kX5_wholeValue 40 rfl)
                                  · replace h := ite_f h c53
                                    by_cases c56 : a1 = 15
                                    · replace h := ite_t h c56
                                      refine g_tin C (tgt := 146) (dk kX5_wholeValue 14 rfl) (by rw [c56]; decide) (by rw [c56]; decide) (by rw [c56]; rfl) (by decide) ?_
                                      refine g_aload_n C (i := 0) 0 rfl rfl (dk kX5_wholeValue 41 rfl) ?_
                                      obtain ⟨x58, eq57, h⟩ := bd_inv h
                                      refine g_callV C E.2 (rest := []) 0 (ct_X5_allRented k0 eq57) wd_3_62 mm_X5_allRented ⟨rfl, by decide, by decide, by decide⟩ rfl (by decide) k0 (by decide) rfl rfl (Nat.le_of_ble_eq_true rfl) (by decide) (dk kX5_wholeValue 42 rfl) ?_
                                      have h9 := Option.some.inj h
                                      subst h9
                                      exact g_iret C E rfl rfl (Nat.le_refl 0) (Nat.le_refl 0) (dk kX5_wholeValue 43 rfl)
                                    · replace h := ite_f h c56
                                      refine g_tout C (tgt := 151) (dk kX5_wholeValue 14 rfl) (by have q0 := lv_neT c31 (a := 0) (by decide); have q1 := lv_neT c33 (a := 1) (by decide); have q2 := lv_neT c34 (a := 2) (by decide); have q3 := lv_neT c35 (a := 3) (by decide); have q4 := lv_neT c36 (a := 4) (by decide); have q5 := lv_neT c37 (a := 5) (by decide); have q6 := lv_neT c38 (a := 6) (by decide); have q7 := lv_neT c39 (a := 7) (by decide); have q8 := lv_neT c40 (a := 8) (by decide); have q9 := lv_neT c41 (a := 9) (by decide); have q10 := lv_neT c42 (a := 10) (by decide); have q11 := lv_neT c45 (a := 11) (by decide); have q12 := lv_neT c47 (a := 12) (by decide); have q13 := lv_neT c50 (a := 13) (by decide); have q14 := lv_neT c53 (a := 14) (by decide); have q15 := lv_neT c56 (a := 15) (by decide); omega) (by decide) ?_
                                      refine g_aload_n C (i := 0) 0 rfl rfl (dk kX5_wholeValue 44 rfl) ?_
                                      refine gI_4_7 C k0 (C.w wd_1_169) (dk kX5_wholeValue 45 rfl) ?_
                                      have h9 := Option.some.inj h
                                      subst h9
                                      exact g_iret C E rfl rfl (Nat.le_refl 0) (Nat.le_refl 0) (dk kX5_wholeValue 46 rfl)
    · replace h := ite_f h c30
      refine g_aload_n C (i := 0) 0 rfl rfl (dk kX5_wholeValue 6 rfl) ?_
      obtain ⟨b59, eb59, h⟩ := bd_inv h
      obtain ⟨rb59, kb59⟩ := rf_inv eb59
      refine gR_4_2 C k0 (C.w wd_1_162) rb59 (dk kX5_wholeValue 7 rfl) ?_
      refine g_iload_n C (i := 1) 1 rfl rfl (dk kX5_wholeValue 8 rfl) ?_
      refine g_iconst C (v := 1) (by decide) (dk kX5_wholeValue 9 rfl) ?_
      refine g_isub C (dk kX5_wholeValue 10 rfl) ?_
      obtain ⟨c60, h⟩ := gd_inv h
      refine g_iald C kb59 c60 (dk kX5_wholeValue 11 rfl) ?_
      have h9 := Option.some.inj h
      subst h9
      exact g_iret C E rfl rfl (Nat.le_refl 0) (Nat.le_refl 0) (dk kX5_wholeValue 12 rfl)
theorem ct_X5_wholeValue {l : Launch} {Z : ZZ} {μ : Mm} {a0 : Nat} {a1 : Int32} {r : Int32} (k0 : (zk Z a0).1 = 4) (h : f_X5_wholeValue (zk Z) μ a0 a1 = some r) : CtM l Z false yX5_wholeValue cX5_wholeValue 2 (some .int) 2 0 0 [.ref (za Z a0), .int a1] μ (some (.int r)) Z μ := ct_of rfl rfl (Nat.le_of_ble_eq_true rfl) (fun X C E => t_X5_wholeValue μ a0 a1 r k0 h C E)

def qX5_whyNotAskAbout : List (Nat × Instr × Nat) := [(0, .aload_n 0, 1), (1, .iload_n 1, 1), (2, .invokevirtual 119, 3), (5, .ifCond .eq 11, 3), (8, .aload_n 0, 1), (9, .iload_n 2, 1), (10, .invokevirtual 94, 3), (13, .ifCond .ne 5, 3), (16, .iconst 1, 1), (17, .ireturn, 1), (18, .iload_n 3, 1), (19, .ifCond .lt 9, 3), (22, .iload_n 3, 1), (23, .bipush 23, 2), (25, .if_icmp .le 7, 3), (28, .iconst 2, 1), (29, .goto 4, 3), (32, .iconst 0, 1), (33, .ireturn, 1)]
theorem kX5_whyNotAskAbout : ∀ q ∈ qX5_whyNotAskAbout, decode cX5_whyNotAskAbout q.1 = .ok q.2 := by decide +kernel
def f_X5_whyNotAskAbout (K : Nat → Nat × Nat) (μ : Mm) (a0 : Nat) (a1 : Int32) (a2 : Int32) (a3 : Int32) : Option (Int32) :=
  bd (f_X5_hasCustomer K μ a0 a1) fun x2 => if x2 = 0 then (some 1) else (bd (f_X5_hasLabel K μ a0 a2) fun x5 => if x5 = 0 then (some 1) else (lt1 (α := Int32) (if a3 < 0 then 2 else (if a3 ≤ 23 then 0 else 2)) fun x7 => some x7))
set_option maxRecDepth 100000 in
set_option maxHeartbeats 4000000 in
theorem t_X5_whyNotAskAbout {l : Launch} {Z : ZZ} {X : XX} (μ : Mm) (a0 : Nat) (a1 : Int32) (a2 : Int32) (a3 : Int32) (r : Int32) (k0 : (zk Z a0).1 = 4) (h : f_X5_whyNotAskAbout (zk Z) μ a0 a1 a2 a3 = some r) (C : Cx l Z false X cX5_whyNotAskAbout RX5 4 (some .int)) (E : Ex Z X 1 0 0 (some (.int r)) Z μ) : G Z X 4 0 0 0 [(0, .ref (za Z a0)), (1, .int a1), (2, .int a2), (3, .int a3)] [] μ := by
  unfold f_X5_whyNotAskAbout at h
  refine g_aload_n C (i := 0) 0 rfl rfl (dk kX5_whyNotAskAbout 0 rfl) ?_
  refine g_iload_n C (i := 1) 1 rfl rfl (dk kX5_whyNotAskAbout 1 rfl) ?_
  obtain ⟨x2, eq1, h⟩ := bd_inv h
  refine g_callV C E.2 (rest := []) 1 (ct_X5_hasCustomer k0 eq1) wd_3_27 mm_X5_hasCustomer ⟨rfl, by decide, by decide, by decide⟩ rfl (by decide) k0 (by decide) rfl rfl (Nat.le_of_ble_eq_true rfl) (by decide) (dk kX5_whyNotAskAbout 2 rfl) ?_
  refine g_if_eq C (tgt := 16) (dk kX5_whyNotAskAbout 3 rfl) (by decide) (fun c3 => ?_) (fun c3 => ?_)
  · replace h := ite_t h c3
    refine g_iconst C (v := 1) (by decide) (dk kX5_whyNotAskAbout 8 rfl) ?_
    have h9 := Option.some.inj h
    subst h9
    exact g_iret C E rfl rfl (Nat.le_refl 0) (Nat.le_refl 0) (dk kX5_whyNotAskAbout 9 rfl)
  · replace h := ite_f h c3
    refine g_aload_n C (i := 0) 0 rfl rfl (dk kX5_whyNotAskAbout 4 rfl) ?_
    refine g_iload_n C (i := 2) 2 rfl rfl (dk kX5_whyNotAskAbout 5 rfl) ?_
    obtain ⟨x5, eq4, h⟩ := bd_inv h
    refine g_callV C E.2 (rest := []) 1 (ct_X5_hasLabel k0 eq4) wd_2_182 mm_X5_hasLabel ⟨rfl, by decide, by decide, by decide⟩ rfl (by decide) k0 (by decide) rfl rfl (Nat.le_of_ble_eq_true rfl) (by decide) (dk kX5_whyNotAskAbout 6 rfl) ?_
    refine g_if_ne C (tgt := 18) (dk kX5_whyNotAskAbout 7 rfl) (by decide) (fun c6 => ?_) (fun c6 => ?_)
    · replace h := ite_f h c6
      refine g_iload_n C (i := 3) 3 rfl rfl (dk kX5_whyNotAskAbout 10 rfl) ?_
      obtain ⟨x7, ex7, h⟩ := lt_inv h
      have kj8 : G Z X 4 0 0 33 [(0, .ref (za Z a0)), (1, .int a1), (2, .int a2), (3, .int a3)] [.int x7] μ := by
        have h9 := Option.some.inj h
        subst h9
        exact g_iret C E rfl rfl (Nat.le_refl 0) (Nat.le_refl 0) (dk kX5_whyNotAskAbout 18 rfl)
      clear h
      refine g_if_lt C (tgt := 28) (dk kX5_whyNotAskAbout 11 rfl) (by decide) (fun c9 => ?_) (fun c9 => ?_)
      · refine g_iconst C (v := 2) (by decide) (dk kX5_whyNotAskAbout 15 rfl) ?_
        refine g_goto C (tgt := 33) (dk kX5_whyNotAskAbout 16 rfl) (by decide) ?_
        exact g_nmi (by rw [ex7, if_pos c9]) kj8
      · refine g_iload_n C (i := 3) 3 rfl rfl (dk kX5_whyNotAskAbout 12 rfl) ?_
        refine g_bipush C (v := 23) (by decide) (dk kX5_whyNotAskAbout 13 rfl) ?_
        refine g_icmp_le C (tgt := 32) (dk kX5_whyNotAskAbout 14 rfl) (by decide) (fun c10 => ?_) (fun c10 => ?_)
        · refine g_iconst C (v := 0) (by decide) (dk kX5_whyNotAskAbout 17 rfl) ?_
          exact g_nmi (by rw [ex7, if_neg c9, if_pos c10]) kj8
        · refine g_iconst C (v := 2) (by decide) (dk kX5_whyNotAskAbout 15 rfl) ?_
          refine g_goto C (tgt := 33) (dk kX5_whyNotAskAbout 16 rfl) (by decide) ?_
          exact g_nmi (by rw [ex7, if_neg c9, if_neg c10]) kj8
    · replace h := ite_t h c6
      refine g_iconst C (v := 1) (by decide) (dk kX5_whyNotAskAbout 8 rfl) ?_
      have h9 := Option.some.inj h
      subst h9
      exact g_iret C E rfl rfl (Nat.le_refl 0) (Nat.le_refl 0) (dk kX5_whyNotAskAbout 9 rfl)
theorem ct_X5_whyNotAskAbout {l : Launch} {Z : ZZ} {μ : Mm} {a0 : Nat} {a1 : Int32} {a2 : Int32} {a3 : Int32} {r : Int32} (k0 : (zk Z a0).1 = 4) (h : f_X5_whyNotAskAbout (zk Z) μ a0 a1 a2 a3 = some r) : CtM l Z false yX5_whyNotAskAbout cX5_whyNotAskAbout 4 (some .int) 1 0 0 [.ref (za Z a0), .int a1, .int a2, .int a3] μ (some (.int r)) Z μ := ct_of rfl rfl (Nat.le_of_ble_eq_true rfl) (fun X C E => t_X5_whyNotAskAbout μ a0 a1 a2 a3 r k0 h C E)

def qX5_whyNotChangeRow : List (Nat × Instr × Nat) := [(0, .aload_n 0, 1), (1, .iload_n 1, 1), (2, .invokevirtual 94, 3), (5, .ifCond .ne 5, 3), (8, .iconst 1, 1), (9, .ireturn, 1), (10, .iload_n 2, 1), (11, .ifCond .lt 30, 3), (14, .iload_n 2, 1), (15, .bipush 6, 2), (17, .if_icmp .ge 24, 3), (20, .iload_n 3, 1), (21, .ifCond .lt 20, 3), (24, .iload_n 3, 1), (25, .aload_n 0, 1), (26, .getfield 24, 3), (29, .iload_n 1, 1), (30, .aaload, 1), (31, .invokevirtual 98, 3), (34, .if_icmp .gt 7, 3), (37, .iconst 1, 1), (38, .goto 4, 3), (41, .iconst 0, 1), (42, .istore 4, 2), (44, .iload 4, 2), (46, .ifCond .eq 7, 3), (49, .iconst 0, 1), (50, .goto 4, 3), (53, .iconst 2, 1), (54, .ireturn, 1)]
theorem kX5_whyNotChangeRow : ∀ q ∈ qX5_whyNotChangeRow, decode cX5_whyNotChangeRow q.1 = .ok q.2 := by decide +kernel
def f_X5_whyNotChangeRow (K : Nat → Nat × Nat) (μ : Mm) (a0 : Nat) (a1 : Int32) (a2 : Int32) (a3 : Int32) : Option (Int32) :=
  bd (f_X5_hasLabel K μ a0 a1) fun x2 => if x2 = 0 then (some 1) else (if a2 < 0 then (some 2) else (if 6 ≤ a2 then (some 2) else (if a3 < 0 then (some 2) else (bd (rf K μ a0 3 10) fun b10 => gd (inb a1 (K b10).2) <| bd (rf K μ b10 (ix a1) 3) fun b12 => bd (f_X4_allColumns K μ b12) fun x14 => lt1 (α := Int32) (if x14 < a3 then 0 else 1) fun x15 => lt1 (α := Int32) (if x15 = 0 then 2 else 0) fun x17 => some x17))))
set_option maxRecDepth 100000 in
set_option maxHeartbeats 4000000 in
theorem t_X5_whyNotChangeRow {l : Launch} {Z : ZZ} {X : XX} (μ : Mm) (a0 : Nat) (a1 : Int32) (a2 : Int32) (a3 : Int32) (r : Int32) (k0 : (zk Z a0).1 = 4) (h : f_X5_whyNotChangeRow (zk Z) μ a0 a1 a2 a3 = some r) (C : Cx l Z false X cX5_whyNotChangeRow RX5 5 (some .int)) (E : Ex Z X 1 0 0 (some (.int r)) Z μ) : G Z X 5 0 0 0 [(0, .ref (za Z a0)), (1, .int a1), (2, .int a2), (3, .int a3)] [] μ := by
  unfold f_X5_whyNotChangeRow at h
  refine g_aload_n C (i := 0) 0 rfl rfl (dk kX5_whyNotChangeRow 0 rfl) ?_
  refine g_iload_n C (i := 1) 1 rfl rfl (dk kX5_whyNotChangeRow 1 rfl) ?_
  obtain ⟨x2, eq1, h⟩ := bd_inv h
  refine g_callV C E.2 (rest := []) 1 (ct_X5_hasLabel k0 eq1) wd_2_182 mm_X5_hasLabel ⟨rfl, by decide, by decide, by decide⟩ rfl (by decide) k0 (by decide) rfl rfl (Nat.le_of_ble_eq_true rfl) (by decide) (dk kX5_whyNotChangeRow 2 rfl) ?_
  refine g_if_ne C (tgt := 10) (dk kX5_whyNotChangeRow 3 rfl) (by decide) (fun c3 => ?_) (fun c3 => ?_)
  · replace h := ite_f h c3
    refine g_iload_n C (i := 2) 2 rfl rfl (dk kX5_whyNotChangeRow 6 rfl) ?_
    refine g_if_lt C (tgt := 41) (dk kX5_whyNotChangeRow 7 rfl) (by decide) (fun c4 => ?_) (fun c4 => ?_)
    · replace h := ite_t h c4
      refine g_iconst C (v := 0) (by decide) (dk kX5_whyNotChangeRow 22 rfl) ?_
      refine g_istore C (i := 4) (lv' := [(4, .int 0), (0, .ref (za Z a0)), (1, .int a1), (2, .int a2), (3, .int a3)]) (dk kX5_whyNotChangeRow 23 rfl) (by decide) rfl ?_
      refine g_iload C (i := 4) 0 rfl (dk kX5_whyNotChangeRow 24 rfl) ?_
      refine g_if_eq C (tgt := 53) (dk kX5_whyNotChangeRow 25 rfl) (by decide) (fun c5 => ?_) (fun c => absurd c (by decide))
      refine g_iconst C (v := 2) (by decide) (dk kX5_whyNotChangeRow 28 rfl) ?_
      have h9 := Option.some.inj h
      subst h9
      exact g_iret C E rfl rfl (Nat.le_refl 0) (Nat.le_refl 0) (dk kX5_whyNotChangeRow 29 rfl)
    · replace h := ite_f h c4
      refine g_iload_n C (i := 2) 2 rfl rfl (dk kX5_whyNotChangeRow 8 rfl) ?_
      refine g_bipush C (v := 6) (by decide) (dk kX5_whyNotChangeRow 9 rfl) ?_
      refine g_icmp_ge C (tgt := 41) (dk kX5_whyNotChangeRow 10 rfl) (by decide) (fun c6 => ?_) (fun c6 => ?_)
      · replace h := ite_t h c6
        refine g_iconst C (v := 0) (by decide) (dk kX5_whyNotChangeRow 22 rfl) ?_
        refine g_istore C (i := 4) (lv' := [(4, .int 0), (0, .ref (za Z a0)), (1, .int a1), (2, .int a2), (3, .int a3)]) (dk kX5_whyNotChangeRow 23 rfl) (by decide) rfl ?_
        refine g_iload C (i := 4) 0 rfl (dk kX5_whyNotChangeRow 24 rfl) ?_
        refine g_if_eq C (tgt := 53) (dk kX5_whyNotChangeRow 25 rfl) (by decide) (fun c7 => ?_) (fun c => absurd c (by decide))
        refine g_iconst C (v := 2) (by decide) (dk kX5_whyNotChangeRow 28 rfl) ?_
        have h9 := Option.some.inj h
        subst h9
        exact g_iret C E rfl rfl (Nat.le_refl 0) (Nat.le_refl 0) (dk kX5_whyNotChangeRow 29 rfl)
      · replace h := ite_f h c6
        refine g_iload_n C (i := 3) 3 rfl rfl (dk kX5_whyNotChangeRow 11 rfl) ?_
        refine g_if_lt C (tgt := 41) (dk kX5_whyNotChangeRow 12 rfl) (by decide) (fun c8 => ?_) (fun c8 => ?_)
        · replace h := ite_t h c8
          refine g_iconst C (v := 0) (by decide) (dk kX5_whyNotChangeRow 22 rfl) ?_
          refine g_istore C (i := 4) (lv' := [(4, .int 0), (0, .ref (za Z a0)), (1, .int a1), (2, .int a2), (3, .int a3)]) (dk kX5_whyNotChangeRow 23 rfl) (by decide) rfl ?_
          refine g_iload C (i := 4) 0 rfl (dk kX5_whyNotChangeRow 24 rfl) ?_
          refine g_if_eq C (tgt := 53) (dk kX5_whyNotChangeRow 25 rfl) (by decide) (fun c9 => ?_) (fun c => absurd c (by decide))
          refine g_iconst C (v := 2) (by decide) (dk kX5_whyNotChangeRow 28 rfl) ?_
          have h9 := Option.some.inj h
          subst h9
          exact g_iret C E rfl rfl (Nat.le_refl 0) (Nat.le_refl 0) (dk kX5_whyNotChangeRow 29 rfl)
        · replace h := ite_f h c8
          refine g_iload_n C (i := 3) 3 rfl rfl (dk kX5_whyNotChangeRow 13 rfl) ?_
          refine g_aload_n C (i := 0) 0 rfl rfl (dk kX5_whyNotChangeRow 14 rfl) ?_
          obtain ⟨b10, eb10, h⟩ := bd_inv h
          obtain ⟨rb10, kb10⟩ := rf_inv eb10
          refine gR_4_3 C k0 (C.w wd_1_163) rb10 (dk kX5_whyNotChangeRow 15 rfl) ?_
          refine g_iload_n C (i := 1) 1 rfl rfl (dk kX5_whyNotChangeRow 16 rfl) ?_
          obtain ⟨c11, h⟩ := gd_inv h
          obtain ⟨b12, eb12, h⟩ := bd_inv h
          obtain ⟨rb12, kb12⟩ := rf_inv eb12
          refine gA_10 C kb10 c11 rb12 (dk kX5_whyNotChangeRow 17 rfl) ?_
          obtain ⟨x14, eq13, h⟩ := bd_inv h
          refine g_callV C E.2 (rest := [.int a3]) 0 (ct_X4_allColumns kb12 eq13) wd_2_186 mm_X4_allColumns ⟨rfl, by decide, by decide, by decide⟩ rfl (by decide) kb12 (by decide) rfl rfl (Nat.le_of_ble_eq_true rfl) (by decide) (dk kX5_whyNotChangeRow 18 rfl) ?_
          obtain ⟨x15, ex15, h⟩ := lt_inv h
          have kj16 : G Z X 5 0 0 42 [(0, .ref (za Z a0)), (1, .int a1), (2, .int a2), (3, .int a3)] [.int x15] μ := by
            refine g_istore C (i := 4) (lv' := [(4, .int x15), (0, .ref (za Z a0)), (1, .int a1), (2, .int a2), (3, .int a3)]) (dk kX5_whyNotChangeRow 23 rfl) (by decide) rfl ?_
            refine g_iload C (i := 4) 0 rfl (dk kX5_whyNotChangeRow 24 rfl) ?_
            obtain ⟨x17, ex17, h⟩ := lt_inv h
            have kj18 : G Z X 5 0 0 54 [(4, .int x15), (0, .ref (za Z a0)), (1, .int a1), (2, .int a2), (3, .int a3)] [.int x17] μ := by
              have h9 := Option.some.inj h
              subst h9
              exact g_iret C E rfl rfl (Nat.le_refl 0) (Nat.le_refl 0) (dk kX5_whyNotChangeRow 29 rfl)
            clear h
            refine g_if_eq C (tgt := 53) (dk kX5_whyNotChangeRow 25 rfl) (by decide) (fun c19 => ?_) (fun c19 => ?_)
            · refine g_iconst C (v := 2) (by decide) (dk kX5_whyNotChangeRow 28 rfl) ?_
              exact g_nmi (by rw [ex17, if_pos c19]) kj18
            · refine g_iconst C (v := 0) (by decide) (dk kX5_whyNotChangeRow 26 rfl) ?_
              refine g_goto C (tgt := 54) (dk kX5_whyNotChangeRow 27 rfl) (by decide) ?_
              exact g_nmi (by rw [ex17, if_neg c19]) kj18
          clear h
          refine g_icmp_gt C (tgt := 41) (dk kX5_whyNotChangeRow 19 rfl) (by decide) (fun c20 => ?_) (fun c20 => ?_)
          · refine g_iconst C (v := 0) (by decide) (dk kX5_whyNotChangeRow 22 rfl) ?_
            exact g_nmi (by rw [ex15, if_pos c20]) kj16
          · refine g_iconst C (v := 1) (by decide) (dk kX5_whyNotChangeRow 20 rfl) ?_
            refine g_goto C (tgt := 42) (dk kX5_whyNotChangeRow 21 rfl) (by decide) ?_
            exact g_nmi (by rw [ex15, if_neg c20]) kj16
  · replace h := ite_t h c3
    refine g_iconst C (v := 1) (by decide) (dk kX5_whyNotChangeRow 4 rfl) ?_
    have h9 := Option.some.inj h
    subst h9
    exact g_iret C E rfl rfl (Nat.le_refl 0) (Nat.le_refl 0) (dk kX5_whyNotChangeRow 5 rfl)
theorem ct_X5_whyNotChangeRow {l : Launch} {Z : ZZ} {μ : Mm} {a0 : Nat} {a1 : Int32} {a2 : Int32} {a3 : Int32} {r : Int32} (k0 : (zk Z a0).1 = 4) (h : f_X5_whyNotChangeRow (zk Z) μ a0 a1 a2 a3 = some r) : CtM l Z false yX5_whyNotChangeRow cX5_whyNotChangeRow 5 (some .int) 1 0 0 [.ref (za Z a0), .int a1, .int a2, .int a3] μ (some (.int r)) Z μ := ct_of rfl rfl (Nat.le_of_ble_eq_true rfl) (fun X C E => t_X5_whyNotChangeRow μ a0 a1 a2 a3 r k0 h C E)

def qX5_whyNotChangeSetting : List (Nat × Instr × Nat) := [(0, .iload_n 1, 1), (1, .ifCond .lt 9, 3), (4, .iload_n 1, 1), (5, .bipush 7, 2), (7, .if_icmp .lt 5, 3), (10, .iconst 2, 1), (11, .ireturn, 1), (12, .iload_n 2, 1), (13, .getstatic 82, 3), (16, .iload_n 1, 1), (17, .iaload, 1), (18, .if_icmp .lt 12, 3), (21, .iload_n 2, 1), (22, .getstatic 85, 3), (25, .iload_n 1, 1), (26, .iaload, 1), (27, .if_icmp .le 7, 3), (30, .iconst 2, 1), (31, .goto 4, 3), (34, .iconst 0, 1), (35, .ireturn, 1)]
theorem kX5_whyNotChangeSetting : ∀ q ∈ qX5_whyNotChangeSetting, decode cX5_whyNotChangeSetting q.1 = .ok q.2 := by decide +kernel
def f_X5_whyNotChangeSetting (K : Nat → Nat × Nat) (μ : Mm) (a0 : Nat) (a1 : Int32) (a2 : Int32) : Option (Int32) :=
  if a1 < 0 then (some 2) else (if a1 < 7 then (gd (inb a1 (sA 0).length) <| if a2 < ((sA 0).getD (ix a1) 0) then (some 2) else (gd (inb a1 (sA 1).length) <| lt1 (α := Int32) (if a2 ≤ ((sA 1).getD (ix a1) 0) then 0 else 2) fun x6 => some x6)) else (some 2))
set_option maxRecDepth 100000 in
set_option maxHeartbeats 4000000 in
theorem t_X5_whyNotChangeSetting {l : Launch} {Z : ZZ} {X : XX} (μ : Mm) (a0 : Nat) (a1 : Int32) (a2 : Int32) (r : Int32) (k0 : (zk Z a0).1 = 4) (h : f_X5_whyNotChangeSetting (zk Z) μ a0 a1 a2 = some r) (C : Cx l Z false X cX5_whyNotChangeSetting RX5 3 (some .int)) (E : Ex Z X 0 0 0 (some (.int r)) Z μ) : G Z X 3 0 0 0 [(0, .ref (za Z a0)), (1, .int a1), (2, .int a2)] [] μ := by
  unfold f_X5_whyNotChangeSetting at h
  refine g_iload_n C (i := 1) 1 rfl rfl (dk kX5_whyNotChangeSetting 0 rfl) ?_
  refine g_if_lt C (tgt := 10) (dk kX5_whyNotChangeSetting 1 rfl) (by decide) (fun c1 => ?_) (fun c1 => ?_)
  · replace h := ite_t h c1
    refine g_iconst C (v := 2) (by decide) (dk kX5_whyNotChangeSetting 5 rfl) ?_
    have h9 := Option.some.inj h
    subst h9
    exact g_iret C E rfl rfl (Nat.le_refl 0) (Nat.le_refl 0) (dk kX5_whyNotChangeSetting 6 rfl)
  · replace h := ite_f h c1
    refine g_iload_n C (i := 1) 1 rfl rfl (dk kX5_whyNotChangeSetting 2 rfl) ?_
    refine g_bipush C (v := 7) (by decide) (dk kX5_whyNotChangeSetting 3 rfl) ?_
    refine g_icmp_lt C (tgt := 12) (dk kX5_whyNotChangeSetting 4 rfl) (by decide) (fun c2 => ?_) (fun c2 => ?_)
    · replace h := ite_t h c2
      refine g_iload_n C (i := 2) 2 rfl rfl (dk kX5_whyNotChangeSetting 7 rfl) ?_
      refine g_gsAN C 0 (by decide) (nf_25 C) (dk kX5_whyNotChangeSetting 8 rfl) ?_
      refine g_iload_n C (i := 1) 1 rfl rfl (dk kX5_whyNotChangeSetting 9 rfl) ?_
      obtain ⟨c3, h⟩ := gd_inv h
      refine g_sial C 0 (by decide) c3 (dk kX5_whyNotChangeSetting 10 rfl) ?_
      refine g_icmp_lt C (tgt := 30) (dk kX5_whyNotChangeSetting 11 rfl) (by decide) (fun c4 => ?_) (fun c4 => ?_)
      · replace h := ite_t h c4
        refine g_iconst C (v := 2) (by decide) (dk kX5_whyNotChangeSetting 17 rfl) ?_
        refine g_goto C (tgt := 35) (dk kX5_whyNotChangeSetting 18 rfl) (by decide) ?_
        have h9 := Option.some.inj h
        subst h9
        exact g_iret C E rfl rfl (Nat.le_refl 0) (Nat.le_refl 0) (dk kX5_whyNotChangeSetting 20 rfl)
      · replace h := ite_f h c4
        refine g_iload_n C (i := 2) 2 rfl rfl (dk kX5_whyNotChangeSetting 12 rfl) ?_
        refine g_gsAN C 1 (by decide) (nf_26 C) (dk kX5_whyNotChangeSetting 13 rfl) ?_
        refine g_iload_n C (i := 1) 1 rfl rfl (dk kX5_whyNotChangeSetting 14 rfl) ?_
        obtain ⟨c5, h⟩ := gd_inv h
        refine g_sial C 1 (by decide) c5 (dk kX5_whyNotChangeSetting 15 rfl) ?_
        obtain ⟨x6, ex6, h⟩ := lt_inv h
        have kj7 : G Z X 3 0 0 35 [(0, .ref (za Z a0)), (1, .int a1), (2, .int a2)] [.int x6] μ := by
          have h9 := Option.some.inj h
          subst h9
          exact g_iret C E rfl rfl (Nat.le_refl 0) (Nat.le_refl 0) (dk kX5_whyNotChangeSetting 20 rfl)
        clear h
        refine g_icmp_le C (tgt := 34) (dk kX5_whyNotChangeSetting 16 rfl) (by decide) (fun c8 => ?_) (fun c8 => ?_)
        · refine g_iconst C (v := 0) (by decide) (dk kX5_whyNotChangeSetting 19 rfl) ?_
          exact g_nmi (by rw [ex6, if_pos c8]) kj7
        · refine g_iconst C (v := 2) (by decide) (dk kX5_whyNotChangeSetting 17 rfl) ?_
          refine g_goto C (tgt := 35) (dk kX5_whyNotChangeSetting 18 rfl) (by decide) ?_
          exact g_nmi (by rw [ex6, if_neg c8]) kj7
    · replace h := ite_f h c2
      refine g_iconst C (v := 2) (by decide) (dk kX5_whyNotChangeSetting 5 rfl) ?_
      have h9 := Option.some.inj h
      subst h9
      exact g_iret C E rfl rfl (Nat.le_refl 0) (Nat.le_refl 0) (dk kX5_whyNotChangeSetting 6 rfl)
theorem ct_X5_whyNotChangeSetting {l : Launch} {Z : ZZ} {μ : Mm} {a0 : Nat} {a1 : Int32} {a2 : Int32} {r : Int32} (k0 : (zk Z a0).1 = 4) (h : f_X5_whyNotChangeSetting (zk Z) μ a0 a1 a2 = some r) : CtM l Z false yX5_whyNotChangeSetting cX5_whyNotChangeSetting 3 (some .int) 0 0 0 [.ref (za Z a0), .int a1, .int a2] μ (some (.int r)) Z μ := ct_of rfl rfl (Nat.le_of_ble_eq_true rfl) (fun X C E => t_X5_whyNotChangeSetting μ a0 a1 a2 r k0 h C E)

def qX5_whyNotCustomerValue : List (Nat × Instr × Nat) := [(0, .aload_n 0, 1), (1, .iload_n 1, 1), (2, .invokevirtual 119, 3), (5, .ifCond .ne 5, 3), (8, .iconst 1, 1), (9, .ireturn, 1), (10, .iload_n 2, 1), (11, .ifCond .lt 9, 3), (14, .iload_n 2, 1), (15, .bipush 6, 2), (17, .if_icmp .lt 7, 3), (20, .iconst 2, 1), (21, .goto 4, 3), (24, .iconst 0, 1), (25, .ireturn, 1)]
theorem kX5_whyNotCustomerValue : ∀ q ∈ qX5_whyNotCustomerValue, decode cX5_whyNotCustomerValue q.1 = .ok q.2 := by decide +kernel
def f_X5_whyNotCustomerValue (K : Nat → Nat × Nat) (μ : Mm) (a0 : Nat) (a1 : Int32) (a2 : Int32) : Option (Int32) :=
  bd (f_X5_hasCustomer K μ a0 a1) fun x2 => if x2 = 0 then (some 1) else (lt1 (α := Int32) (if a2 < 0 then 2 else (if a2 < 6 then 0 else 2)) fun x4 => some x4)
set_option maxRecDepth 100000 in
set_option maxHeartbeats 4000000 in
theorem t_X5_whyNotCustomerValue {l : Launch} {Z : ZZ} {X : XX} (μ : Mm) (a0 : Nat) (a1 : Int32) (a2 : Int32) (r : Int32) (k0 : (zk Z a0).1 = 4) (h : f_X5_whyNotCustomerValue (zk Z) μ a0 a1 a2 = some r) (C : Cx l Z false X cX5_whyNotCustomerValue RX5 3 (some .int)) (E : Ex Z X 1 0 0 (some (.int r)) Z μ) : G Z X 3 0 0 0 [(0, .ref (za Z a0)), (1, .int a1), (2, .int a2)] [] μ := by
  unfold f_X5_whyNotCustomerValue at h
  refine g_aload_n C (i := 0) 0 rfl rfl (dk kX5_whyNotCustomerValue 0 rfl) ?_
  refine g_iload_n C (i := 1) 1 rfl rfl (dk kX5_whyNotCustomerValue 1 rfl) ?_
  obtain ⟨x2, eq1, h⟩ := bd_inv h
  refine g_callV C E.2 (rest := []) 1 (ct_X5_hasCustomer k0 eq1) wd_3_27 mm_X5_hasCustomer ⟨rfl, by decide, by decide, by decide⟩ rfl (by decide) k0 (by decide) rfl rfl (Nat.le_of_ble_eq_true rfl) (by decide) (dk kX5_whyNotCustomerValue 2 rfl) ?_
  refine g_if_ne C (tgt := 10) (dk kX5_whyNotCustomerValue 3 rfl) (by decide) (fun c3 => ?_) (fun c3 => ?_)
  · replace h := ite_f h c3
    refine g_iload_n C (i := 2) 2 rfl rfl (dk kX5_whyNotCustomerValue 6 rfl) ?_
    obtain ⟨x4, ex4, h⟩ := lt_inv h
    have kj5 : G Z X 3 0 0 25 [(0, .ref (za Z a0)), (1, .int a1), (2, .int a2)] [.int x4] μ := by
      have h9 := Option.some.inj h
      subst h9
      exact g_iret C E rfl rfl (Nat.le_refl 0) (Nat.le_refl 0) (dk kX5_whyNotCustomerValue 14 rfl)
    clear h
    refine g_if_lt C (tgt := 20) (dk kX5_whyNotCustomerValue 7 rfl) (by decide) (fun c6 => ?_) (fun c6 => ?_)
    · refine g_iconst C (v := 2) (by decide) (dk kX5_whyNotCustomerValue 11 rfl) ?_
      refine g_goto C (tgt := 25) (dk kX5_whyNotCustomerValue 12 rfl) (by decide) ?_
      exact g_nmi (by rw [ex4, if_pos c6]) kj5
    · refine g_iload_n C (i := 2) 2 rfl rfl (dk kX5_whyNotCustomerValue 8 rfl) ?_
      refine g_bipush C (v := 6) (by decide) (dk kX5_whyNotCustomerValue 9 rfl) ?_
      refine g_icmp_lt C (tgt := 24) (dk kX5_whyNotCustomerValue 10 rfl) (by decide) (fun c7 => ?_) (fun c7 => ?_)
      · refine g_iconst C (v := 0) (by decide) (dk kX5_whyNotCustomerValue 13 rfl) ?_
        exact g_nmi (by rw [ex4, if_neg c6, if_pos c7]) kj5
      · refine g_iconst C (v := 2) (by decide) (dk kX5_whyNotCustomerValue 11 rfl) ?_
        refine g_goto C (tgt := 25) (dk kX5_whyNotCustomerValue 12 rfl) (by decide) ?_
        exact g_nmi (by rw [ex4, if_neg c6, if_neg c7]) kj5
  · replace h := ite_t h c3
    refine g_iconst C (v := 1) (by decide) (dk kX5_whyNotCustomerValue 4 rfl) ?_
    have h9 := Option.some.inj h
    subst h9
    exact g_iret C E rfl rfl (Nat.le_refl 0) (Nat.le_refl 0) (dk kX5_whyNotCustomerValue 5 rfl)
theorem ct_X5_whyNotCustomerValue {l : Launch} {Z : ZZ} {μ : Mm} {a0 : Nat} {a1 : Int32} {a2 : Int32} {r : Int32} (k0 : (zk Z a0).1 = 4) (h : f_X5_whyNotCustomerValue (zk Z) μ a0 a1 a2 = some r) : CtM l Z false yX5_whyNotCustomerValue cX5_whyNotCustomerValue 3 (some .int) 1 0 0 [.ref (za Z a0), .int a1, .int a2] μ (some (.int r)) Z μ := ct_of rfl rfl (Nat.le_of_ble_eq_true rfl) (fun X C E => t_X5_whyNotCustomerValue μ a0 a1 a2 r k0 h C E)

def qX5_whyNotDotValue : List (Nat × Instr × Nat) := [(0, .aload_n 0, 1), (1, .iload_n 1, 1), (2, .invokevirtual 104, 3), (5, .ifCond .ne 5, 3), (8, .iconst 1, 1), (9, .ireturn, 1), (10, .iload_n 2, 1), (11, .ifCond .lt 8, 3), (14, .iload_n 2, 1), (15, .iconst 5, 1), (16, .if_icmp .lt 7, 3), (19, .iconst 2, 1), (20, .goto 4, 3), (23, .iconst 0, 1), (24, .ireturn, 1)]
theorem kX5_whyNotDotValue : ∀ q ∈ qX5_whyNotDotValue, decode cX5_whyNotDotValue q.1 = .ok q.2 := by decide +kernel
def f_X5_whyNotDotValue (K : Nat → Nat × Nat) (μ : Mm) (a0 : Nat) (a1 : Int32) (a2 : Int32) : Option (Int32) :=
  bd (f_X5_hasDot K μ a0 a1) fun x2 => if x2 = 0 then (some 1) else (lt1 (α := Int32) (if a2 < 0 then 2 else (if a2 < 5 then 0 else 2)) fun x4 => some x4)
set_option maxRecDepth 100000 in
set_option maxHeartbeats 4000000 in
theorem t_X5_whyNotDotValue {l : Launch} {Z : ZZ} {X : XX} (μ : Mm) (a0 : Nat) (a1 : Int32) (a2 : Int32) (r : Int32) (k0 : (zk Z a0).1 = 4) (h : f_X5_whyNotDotValue (zk Z) μ a0 a1 a2 = some r) (C : Cx l Z false X cX5_whyNotDotValue RX5 3 (some .int)) (E : Ex Z X 1 0 0 (some (.int r)) Z μ) : G Z X 3 0 0 0 [(0, .ref (za Z a0)), (1, .int a1), (2, .int a2)] [] μ := by
  unfold f_X5_whyNotDotValue at h
  refine g_aload_n C (i := 0) 0 rfl rfl (dk kX5_whyNotDotValue 0 rfl) ?_
  refine g_iload_n C (i := 1) 1 rfl rfl (dk kX5_whyNotDotValue 1 rfl) ?_
  obtain ⟨x2, eq1, h⟩ := bd_inv h
  refine g_callV C E.2 (rest := []) 1 (ct_X5_hasDot k0 eq1) wd_2_206 mm_X5_hasDot ⟨rfl, by decide, by decide, by decide⟩ rfl (by decide) k0 (by decide) rfl rfl (Nat.le_of_ble_eq_true rfl) (by decide) (dk kX5_whyNotDotValue 2 rfl) ?_
  refine g_if_ne C (tgt := 10) (dk kX5_whyNotDotValue 3 rfl) (by decide) (fun c3 => ?_) (fun c3 => ?_)
  · replace h := ite_f h c3
    refine g_iload_n C (i := 2) 2 rfl rfl (dk kX5_whyNotDotValue 6 rfl) ?_
    obtain ⟨x4, ex4, h⟩ := lt_inv h
    have kj5 : G Z X 3 0 0 24 [(0, .ref (za Z a0)), (1, .int a1), (2, .int a2)] [.int x4] μ := by
      have h9 := Option.some.inj h
      subst h9
      exact g_iret C E rfl rfl (Nat.le_refl 0) (Nat.le_refl 0) (dk kX5_whyNotDotValue 14 rfl)
    clear h
    refine g_if_lt C (tgt := 19) (dk kX5_whyNotDotValue 7 rfl) (by decide) (fun c6 => ?_) (fun c6 => ?_)
    · refine g_iconst C (v := 2) (by decide) (dk kX5_whyNotDotValue 11 rfl) ?_
      refine g_goto C (tgt := 24) (dk kX5_whyNotDotValue 12 rfl) (by decide) ?_
      exact g_nmi (by rw [ex4, if_pos c6]) kj5
    · refine g_iload_n C (i := 2) 2 rfl rfl (dk kX5_whyNotDotValue 8 rfl) ?_
      refine g_iconst C (v := 5) (by decide) (dk kX5_whyNotDotValue 9 rfl) ?_
      refine g_icmp_lt C (tgt := 23) (dk kX5_whyNotDotValue 10 rfl) (by decide) (fun c7 => ?_) (fun c7 => ?_)
      · refine g_iconst C (v := 0) (by decide) (dk kX5_whyNotDotValue 13 rfl) ?_
        exact g_nmi (by rw [ex4, if_neg c6, if_pos c7]) kj5
      · refine g_iconst C (v := 2) (by decide) (dk kX5_whyNotDotValue 11 rfl) ?_
        refine g_goto C (tgt := 24) (dk kX5_whyNotDotValue 12 rfl) (by decide) ?_
        exact g_nmi (by rw [ex4, if_neg c6, if_neg c7]) kj5
  · replace h := ite_t h c3
    refine g_iconst C (v := 1) (by decide) (dk kX5_whyNotDotValue 4 rfl) ?_
    have h9 := Option.some.inj h
    subst h9
    exact g_iret C E rfl rfl (Nat.le_refl 0) (Nat.le_refl 0) (dk kX5_whyNotDotValue 5 rfl)
theorem ct_X5_whyNotDotValue {l : Launch} {Z : ZZ} {μ : Mm} {a0 : Nat} {a1 : Int32} {a2 : Int32} {r : Int32} (k0 : (zk Z a0).1 = 4) (h : f_X5_whyNotDotValue (zk Z) μ a0 a1 a2 = some r) : CtM l Z false yX5_whyNotDotValue cX5_whyNotDotValue 3 (some .int) 1 0 0 [.ref (za Z a0), .int a1, .int a2] μ (some (.int r)) Z μ := ct_of rfl rfl (Nat.le_of_ble_eq_true rfl) (fun X C E => t_X5_whyNotDotValue μ a0 a1 a2 r k0 h C E)

def qX5_whyNotEndLet : List (Nat × Instr × Nat) := [(0, .aload_n 0, 1), (1, .iload_n 1, 1), (2, .invokevirtual 119, 3), (5, .ifCond .ne 5, 3), (8, .iconst 1, 1), (9, .ireturn, 1), (10, .aload_n 0, 1), (11, .getfield 30, 3), (14, .iload_n 1, 1), (15, .aaload, 1), (16, .invokevirtual 135, 3), (19, .ifCond .ne 7, 3), (22, .iconst 3, 1), (23, .goto 4, 3), (26, .iconst 0, 1), (27, .ireturn, 1)]
theorem kX5_whyNotEndLet : ∀ q ∈ qX5_whyNotEndLet, decode cX5_whyNotEndLet q.1 = .ok q.2 := by decide +kernel
def f_X5_whyNotEndLet (K : Nat → Nat × Nat) (μ : Mm) (a0 : Nat) (a1 : Int32) : Option (Int32) :=
  bd (f_X5_hasCustomer K μ a0 a1) fun x2 => if x2 = 0 then (some 1) else (bd (rf K μ a0 5 9) fun b4 => gd (inb a1 (K b4).2) <| bd (rf K μ b4 (ix a1) 1) fun b6 => bd (f_X2_rented K μ b6) fun x8 => lt1 (α := Int32) (if x8 = 0 then 3 else 0) fun x9 => some x9)
set_option maxRecDepth 100000 in
set_option maxHeartbeats 4000000 in
theorem t_X5_whyNotEndLet {l : Launch} {Z : ZZ} {X : XX} (μ : Mm) (a0 : Nat) (a1 : Int32) (r : Int32) (k0 : (zk Z a0).1 = 4) (h : f_X5_whyNotEndLet (zk Z) μ a0 a1 = some r) (C : Cx l Z false X cX5_whyNotEndLet RX5 2 (some .int)) (E : Ex Z X 1 0 0 (some (.int r)) Z μ) : G Z X 2 0 0 0 [(0, .ref (za Z a0)), (1, .int a1)] [] μ := by
  unfold f_X5_whyNotEndLet at h
  refine g_aload_n C (i := 0) 0 rfl rfl (dk kX5_whyNotEndLet 0 rfl) ?_
  refine g_iload_n C (i := 1) 1 rfl rfl (dk kX5_whyNotEndLet 1 rfl) ?_
  obtain ⟨x2, eq1, h⟩ := bd_inv h
  refine g_callV C E.2 (rest := []) 1 (ct_X5_hasCustomer k0 eq1) wd_3_27 mm_X5_hasCustomer ⟨rfl, by decide, by decide, by decide⟩ rfl (by decide) k0 (by decide) rfl rfl (Nat.le_of_ble_eq_true rfl) (by decide) (dk kX5_whyNotEndLet 2 rfl) ?_
  refine g_if_ne C (tgt := 10) (dk kX5_whyNotEndLet 3 rfl) (by decide) (fun c3 => ?_) (fun c3 => ?_)
  · replace h := ite_f h c3
    refine g_aload_n C (i := 0) 0 rfl rfl (dk kX5_whyNotEndLet 6 rfl) ?_
    obtain ⟨b4, eb4, h⟩ := bd_inv h
    obtain ⟨rb4, kb4⟩ := rf_inv eb4
    refine gR_4_5 C k0 (C.w wd_1_166) rb4 (dk kX5_whyNotEndLet 7 rfl) ?_
    refine g_iload_n C (i := 1) 1 rfl rfl (dk kX5_whyNotEndLet 8 rfl) ?_
    obtain ⟨c5, h⟩ := gd_inv h
    obtain ⟨b6, eb6, h⟩ := bd_inv h
    obtain ⟨rb6, kb6⟩ := rf_inv eb6
    refine gA_9 C kb4 c5 rb6 (dk kX5_whyNotEndLet 9 rfl) ?_
    obtain ⟨x8, eq7, h⟩ := bd_inv h
    refine g_callV C E.2 (rest := []) 0 (ct_X2_rented kb6 eq7) wd_3_31 mm_X2_rented ⟨rfl, by decide, by decide, by decide⟩ rfl (by decide) kb6 (by decide) rfl rfl (Nat.le_of_ble_eq_true rfl) (by decide) (dk kX5_whyNotEndLet 10 rfl) ?_
    obtain ⟨x9, ex9, h⟩ := lt_inv h
    have kj10 : G Z X 2 0 0 27 [(0, .ref (za Z a0)), (1, .int a1)] [.int x9] μ := by
      have h9 := Option.some.inj h
      subst h9
      exact g_iret C E rfl rfl (Nat.le_refl 0) (Nat.le_refl 0) (dk kX5_whyNotEndLet 15 rfl)
    clear h
    refine g_if_ne C (tgt := 26) (dk kX5_whyNotEndLet 11 rfl) (by decide) (fun c11 => ?_) (fun c11 => ?_)
    · refine g_iconst C (v := 0) (by decide) (dk kX5_whyNotEndLet 14 rfl) ?_
      exact g_nmi (by rw [ex9, if_neg c11]) kj10
    · refine g_iconst C (v := 3) (by decide) (dk kX5_whyNotEndLet 12 rfl) ?_
      refine g_goto C (tgt := 27) (dk kX5_whyNotEndLet 13 rfl) (by decide) ?_
      exact g_nmi (by rw [ex9, if_pos c11]) kj10
  · replace h := ite_t h c3
    refine g_iconst C (v := 1) (by decide) (dk kX5_whyNotEndLet 4 rfl) ?_
    have h9 := Option.some.inj h
    subst h9
    exact g_iret C E rfl rfl (Nat.le_refl 0) (Nat.le_refl 0) (dk kX5_whyNotEndLet 5 rfl)
theorem ct_X5_whyNotEndLet {l : Launch} {Z : ZZ} {μ : Mm} {a0 : Nat} {a1 : Int32} {r : Int32} (k0 : (zk Z a0).1 = 4) (h : f_X5_whyNotEndLet (zk Z) μ a0 a1 = some r) : CtM l Z false yX5_whyNotEndLet cX5_whyNotEndLet 2 (some .int) 1 0 0 [.ref (za Z a0), .int a1] μ (some (.int r)) Z μ := ct_of rfl rfl (Nat.le_of_ble_eq_true rfl) (fun X C E => t_X5_whyNotEndLet μ a0 a1 r k0 h C E)

def qX5_whyNotLabelValue : List (Nat × Instr × Nat) := [(0, .aload_n 0, 1), (1, .iload_n 1, 1), (2, .invokevirtual 94, 3), (5, .ifCond .ne 5, 3), (8, .iconst 1, 1), (9, .ireturn, 1), (10, .iload_n 2, 1), (11, .ifCond .lt 8, 3), (14, .iload_n 2, 1), (15, .iload_n 3, 1), (16, .if_icmp .lt 7, 3), (19, .iconst 2, 1), (20, .goto 4, 3), (23, .iconst 0, 1), (24, .ireturn, 1)]
theorem kX5_whyNotLabelValue : ∀ q ∈ qX5_whyNotLabelValue, decode cX5_whyNotLabelValue q.1 = .ok q.2 := by decide +kernel
def f_X5_whyNotLabelValue (K : Nat → Nat × Nat) (μ : Mm) (a0 : Nat) (a1 : Int32) (a2 : Int32) (a3 : Int32) : Option (Int32) :=
  bd (f_X5_hasLabel K μ a0 a1) fun x2 => if x2 = 0 then (some 1) else (lt1 (α := Int32) (if a2 < 0 then 2 else (if a2 < a3 then 0 else 2)) fun x4 => some x4)
set_option maxRecDepth 100000 in
set_option maxHeartbeats 4000000 in
theorem t_X5_whyNotLabelValue {l : Launch} {Z : ZZ} {X : XX} (μ : Mm) (a0 : Nat) (a1 : Int32) (a2 : Int32) (a3 : Int32) (r : Int32) (k0 : (zk Z a0).1 = 4) (h : f_X5_whyNotLabelValue (zk Z) μ a0 a1 a2 a3 = some r) (C : Cx l Z false X cX5_whyNotLabelValue RX5 4 (some .int)) (E : Ex Z X 1 0 0 (some (.int r)) Z μ) : G Z X 4 0 0 0 [(0, .ref (za Z a0)), (1, .int a1), (2, .int a2), (3, .int a3)] [] μ := by
  unfold f_X5_whyNotLabelValue at h
  refine g_aload_n C (i := 0) 0 rfl rfl (dk kX5_whyNotLabelValue 0 rfl) ?_
  refine g_iload_n C (i := 1) 1 rfl rfl (dk kX5_whyNotLabelValue 1 rfl) ?_
  obtain ⟨x2, eq1, h⟩ := bd_inv h
  refine g_callV C E.2 (rest := []) 1 (ct_X5_hasLabel k0 eq1) wd_2_182 mm_X5_hasLabel ⟨rfl, by decide, by decide, by decide⟩ rfl (by decide) k0 (by decide) rfl rfl (Nat.le_of_ble_eq_true rfl) (by decide) (dk kX5_whyNotLabelValue 2 rfl) ?_
  refine g_if_ne C (tgt := 10) (dk kX5_whyNotLabelValue 3 rfl) (by decide) (fun c3 => ?_) (fun c3 => ?_)
  · replace h := ite_f h c3
    refine g_iload_n C (i := 2) 2 rfl rfl (dk kX5_whyNotLabelValue 6 rfl) ?_
    obtain ⟨x4, ex4, h⟩ := lt_inv h
    have kj5 : G Z X 4 0 0 24 [(0, .ref (za Z a0)), (1, .int a1), (2, .int a2), (3, .int a3)] [.int x4] μ := by
      have h9 := Option.some.inj h
      subst h9
      exact g_iret C E rfl rfl (Nat.le_refl 0) (Nat.le_refl 0) (dk kX5_whyNotLabelValue 14 rfl)
    clear h
    refine g_if_lt C (tgt := 19) (dk kX5_whyNotLabelValue 7 rfl) (by decide) (fun c6 => ?_) (fun c6 => ?_)
    · refine g_iconst C (v := 2) (by decide) (dk kX5_whyNotLabelValue 11 rfl) ?_
      refine g_goto C (tgt := 24) (dk kX5_whyNotLabelValue 12 rfl) (by decide) ?_
      exact g_nmi (by rw [ex4, if_pos c6]) kj5
    · refine g_iload_n C (i := 2) 2 rfl rfl (dk kX5_whyNotLabelValue 8 rfl) ?_
      refine g_iload_n C (i := 3) 3 rfl rfl (dk kX5_whyNotLabelValue 9 rfl) ?_
      refine g_icmp_lt C (tgt := 23) (dk kX5_whyNotLabelValue 10 rfl) (by decide) (fun c7 => ?_) (fun c7 => ?_)
      · refine g_iconst C (v := 0) (by decide) (dk kX5_whyNotLabelValue 13 rfl) ?_
        exact g_nmi (by rw [ex4, if_neg c6, if_pos c7]) kj5
      · refine g_iconst C (v := 2) (by decide) (dk kX5_whyNotLabelValue 11 rfl) ?_
        refine g_goto C (tgt := 24) (dk kX5_whyNotLabelValue 12 rfl) (by decide) ?_
        exact g_nmi (by rw [ex4, if_neg c6, if_neg c7]) kj5
  · replace h := ite_t h c3
    refine g_iconst C (v := 1) (by decide) (dk kX5_whyNotLabelValue 4 rfl) ?_
    have h9 := Option.some.inj h
    subst h9
    exact g_iret C E rfl rfl (Nat.le_refl 0) (Nat.le_refl 0) (dk kX5_whyNotLabelValue 5 rfl)
theorem ct_X5_whyNotLabelValue {l : Launch} {Z : ZZ} {μ : Mm} {a0 : Nat} {a1 : Int32} {a2 : Int32} {a3 : Int32} {r : Int32} (k0 : (zk Z a0).1 = 4) (h : f_X5_whyNotLabelValue (zk Z) μ a0 a1 a2 a3 = some r) : CtM l Z false yX5_whyNotLabelValue cX5_whyNotLabelValue 4 (some .int) 1 0 0 [.ref (za Z a0), .int a1, .int a2, .int a3] μ (some (.int r)) Z μ := ct_of rfl rfl (Nat.le_of_ble_eq_true rfl) (fun X C E => t_X5_whyNotLabelValue μ a0 a1 a2 a3 r k0 h C E)

def qX5_whyNotLet : List (Nat × Instr × Nat) := [(0, .aload_n 0, 1), (1, .iload_n 1, 1), (2, .invokevirtual 119, 3), (5, .ifCond .eq 19, 3), (8, .aload_n 0, 1), (9, .iload_n 2, 1), (10, .invokevirtual 104, 3), (13, .ifCond .eq 11, 3), (16, .aload_n 0, 1), (17, .iload_n 3, 1), (18, .invokevirtual 104, 3), (21, .ifCond .ne 5, 3), (24, .iconst 1, 1), (25, .ireturn, 1), (26, .iload_n 3, 1), (27, .iload_n 2, 1), (28, .if_icmp .ge 5, 3), (31, .iconst 2, 1), (32, .ireturn, 1), (33, .aload_n 0, 1), (34, .iload_n 1, 1), (35, .iload_n 2, 1), (36, .iload_n 3, 1), (37, .invokevirtual 122, 3), (40, .ifCond .eq 7, 3), (43, .iconst 3, 1), (44, .goto 4, 3), (47, .iconst 0, 1), (48, .ireturn, 1)]
theorem kX5_whyNotLet : ∀ q ∈ qX5_whyNotLet, decode cX5_whyNotLet q.1 = .ok q.2 := by decide +kernel
def f_X5_whyNotLet (K : Nat → Nat × Nat) (μ : Mm) (a0 : Nat) (a1 : Int32) (a2 : Int32) (a3 : Int32) : Option (Int32) :=
  bd (f_X5_hasCustomer K μ a0 a1) fun x2 => if x2 = 0 then (some 1) else (bd (f_X5_hasDot K μ a0 a2) fun x5 => if x5 = 0 then (some 1) else (bd (f_X5_hasDot K μ a0 a3) fun x8 => if x8 = 0 then (some 1) else (if a2 ≤ a3 then (bd (f_X5_othersRentOneOf K μ a0 a1 a2 a3) fun x12 => lt1 (α := Int32) (if x12 = 0 then 0 else 3) fun x13 => some x13) else (some 2))))
set_option maxRecDepth 100000 in
set_option maxHeartbeats 4000000 in
theorem t_X5_whyNotLet {l : Launch} {Z : ZZ} {X : XX} (μ : Mm) (a0 : Nat) (a1 : Int32) (a2 : Int32) (a3 : Int32) (r : Int32) (k0 : (zk Z a0).1 = 4) (h : f_X5_whyNotLet (zk Z) μ a0 a1 a2 a3 = some r) (C : Cx l Z false X cX5_whyNotLet RX5 4 (some .int)) (E : Ex Z X 2 0 0 (some (.int r)) Z μ) : G Z X 4 0 0 0 [(0, .ref (za Z a0)), (1, .int a1), (2, .int a2), (3, .int a3)] [] μ := by
  unfold f_X5_whyNotLet at h
  refine g_aload_n C (i := 0) 0 rfl rfl (dk kX5_whyNotLet 0 rfl) ?_
  refine g_iload_n C (i := 1) 1 rfl rfl (dk kX5_whyNotLet 1 rfl) ?_
  obtain ⟨x2, eq1, h⟩ := bd_inv h
  refine g_callV C E.2 (rest := []) 1 (ct_X5_hasCustomer k0 eq1) wd_3_27 mm_X5_hasCustomer ⟨rfl, by decide, by decide, by decide⟩ rfl (by decide) k0 (by decide) rfl rfl (Nat.le_of_ble_eq_true rfl) (by decide) (dk kX5_whyNotLet 2 rfl) ?_
  refine g_if_eq C (tgt := 24) (dk kX5_whyNotLet 3 rfl) (by decide) (fun c3 => ?_) (fun c3 => ?_)
  · replace h := ite_t h c3
    refine g_iconst C (v := 1) (by decide) (dk kX5_whyNotLet 12 rfl) ?_
    have h9 := Option.some.inj h
    subst h9
    exact g_iret C E rfl rfl (Nat.le_refl 0) (Nat.le_refl 0) (dk kX5_whyNotLet 13 rfl)
  · replace h := ite_f h c3
    refine g_aload_n C (i := 0) 0 rfl rfl (dk kX5_whyNotLet 4 rfl) ?_
    refine g_iload_n C (i := 2) 2 rfl rfl (dk kX5_whyNotLet 5 rfl) ?_
    obtain ⟨x5, eq4, h⟩ := bd_inv h
    refine g_callV C E.2 (rest := []) 1 (ct_X5_hasDot k0 eq4) wd_2_206 mm_X5_hasDot ⟨rfl, by decide, by decide, by decide⟩ rfl (by decide) k0 (by decide) rfl rfl (Nat.le_of_ble_eq_true rfl) (by decide) (dk kX5_whyNotLet 6 rfl) ?_
    refine g_if_eq C (tgt := 24) (dk kX5_whyNotLet 7 rfl) (by decide) (fun c6 => ?_) (fun c6 => ?_)
    · replace h := ite_t h c6
      refine g_iconst C (v := 1) (by decide) (dk kX5_whyNotLet 12 rfl) ?_
      have h9 := Option.some.inj h
      subst h9
      exact g_iret C E rfl rfl (Nat.le_refl 0) (Nat.le_refl 0) (dk kX5_whyNotLet 13 rfl)
    · replace h := ite_f h c6
      refine g_aload_n C (i := 0) 0 rfl rfl (dk kX5_whyNotLet 8 rfl) ?_
      refine g_iload_n C (i := 3) 3 rfl rfl (dk kX5_whyNotLet 9 rfl) ?_
      obtain ⟨x8, eq7, h⟩ := bd_inv h
      refine g_callV C E.2 (rest := []) 1 (ct_X5_hasDot k0 eq7) wd_2_206 mm_X5_hasDot ⟨rfl, by decide, by decide, by decide⟩ rfl (by decide) k0 (by decide) rfl rfl (Nat.le_of_ble_eq_true rfl) (by decide) (dk kX5_whyNotLet 10 rfl) ?_
      refine g_if_ne C (tgt := 26) (dk kX5_whyNotLet 11 rfl) (by decide) (fun c9 => ?_) (fun c9 => ?_)
      · replace h := ite_f h c9
        refine g_iload_n C (i := 3) 3 rfl rfl (dk kX5_whyNotLet 14 rfl) ?_
        refine g_iload_n C (i := 2) 2 rfl rfl (dk kX5_whyNotLet 15 rfl) ?_
        refine g_icmp_ge C (tgt := 33) (dk kX5_whyNotLet 16 rfl) (by decide) (fun c10 => ?_) (fun c10 => ?_)
        · replace h := ite_t h c10
          refine g_aload_n C (i := 0) 0 rfl rfl (dk kX5_whyNotLet 19 rfl) ?_
          refine g_iload_n C (i := 1) 1 rfl rfl (dk kX5_whyNotLet 20 rfl) ?_
          refine g_iload_n C (i := 2) 2 rfl rfl (dk kX5_whyNotLet 21 rfl) ?_
          refine g_iload_n C (i := 3) 3 rfl rfl (dk kX5_whyNotLet 22 rfl) ?_
          obtain ⟨x12, eq11, h⟩ := bd_inv h
          refine g_callV C E.2 (rest := []) 3 (ct_X5_othersRentOneOf k0 eq11) wd_3_50 mm_X5_othersRentOneOf ⟨rfl, by decide, by decide, by decide⟩ rfl (by decide) k0 (by decide) rfl rfl (Nat.le_of_ble_eq_true rfl) (by decide) (dk kX5_whyNotLet 23 rfl) ?_
          obtain ⟨x13, ex13, h⟩ := lt_inv h
          have kj14 : G Z X 4 0 0 48 [(0, .ref (za Z a0)), (1, .int a1), (2, .int a2), (3, .int a3)] [.int x13] μ := by
            have h9 := Option.some.inj h
            subst h9
            exact g_iret C E rfl rfl (Nat.le_refl 0) (Nat.le_refl 0) (dk kX5_whyNotLet 28 rfl)
          clear h
          refine g_if_eq C (tgt := 47) (dk kX5_whyNotLet 24 rfl) (by decide) (fun c15 => ?_) (fun c15 => ?_)
          · refine g_iconst C (v := 0) (by decide) (dk kX5_whyNotLet 27 rfl) ?_
            exact g_nmi (by rw [ex13, if_pos c15]) kj14
          · refine g_iconst C (v := 3) (by decide) (dk kX5_whyNotLet 25 rfl) ?_
            refine g_goto C (tgt := 48) (dk kX5_whyNotLet 26 rfl) (by decide) ?_
            exact g_nmi (by rw [ex13, if_neg c15]) kj14
        · replace h := ite_f h c10
          refine g_iconst C (v := 2) (by decide) (dk kX5_whyNotLet 17 rfl) ?_
          have h9 := Option.some.inj h
          subst h9
          exact g_iret C E rfl rfl (Nat.le_refl 0) (Nat.le_refl 0) (dk kX5_whyNotLet 18 rfl)
      · replace h := ite_t h c9
        refine g_iconst C (v := 1) (by decide) (dk kX5_whyNotLet 12 rfl) ?_
        have h9 := Option.some.inj h
        subst h9
        exact g_iret C E rfl rfl (Nat.le_refl 0) (Nat.le_refl 0) (dk kX5_whyNotLet 13 rfl)
theorem ct_X5_whyNotLet {l : Launch} {Z : ZZ} {μ : Mm} {a0 : Nat} {a1 : Int32} {a2 : Int32} {a3 : Int32} {r : Int32} (k0 : (zk Z a0).1 = 4) (h : f_X5_whyNotLet (zk Z) μ a0 a1 a2 a3 = some r) : CtM l Z false yX5_whyNotLet cX5_whyNotLet 4 (some .int) 2 0 0 [.ref (za Z a0), .int a1, .int a2, .int a3] μ (some (.int r)) Z μ := ct_of rfl rfl (Nat.le_of_ble_eq_true rfl) (fun X C E => t_X5_whyNotLet μ a0 a1 a2 a3 r k0 h C E)

def qX5_whyNotNewCustomer : List (Nat × Instr × Nat) := [(0, .aload_n 0, 1), (1, .getfield 62, 3), (4, .bipush 6, 2), (6, .if_icmp .lt 7, 3), (9, .iconst 3, 1), (10, .goto 4, 3), (13, .iconst 0, 1), (14, .ireturn, 1)]
theorem kX5_whyNotNewCustomer : ∀ q ∈ qX5_whyNotNewCustomer, decode cX5_whyNotNewCustomer q.1 = .ok q.2 := by decide +kernel
def f_X5_whyNotNewCustomer (K : Nat → Nat × Nat) (μ : Mm) (a0 : Nat) : Option (Int32) :=
  lt1 (α := Int32) (if (μ.1 a0 6) < 6 then 0 else 3) fun x1 => some x1
set_option maxRecDepth 100000 in
set_option maxHeartbeats 4000000 in
theorem t_X5_whyNotNewCustomer {l : Launch} {Z : ZZ} {X : XX} (μ : Mm) (a0 : Nat) (r : Int32) (k0 : (zk Z a0).1 = 4) (h : f_X5_whyNotNewCustomer (zk Z) μ a0 = some r) (C : Cx l Z false X cX5_whyNotNewCustomer RX5 1 (some .int)) (E : Ex Z X 0 0 0 (some (.int r)) Z μ) : G Z X 1 0 0 0 [(0, .ref (za Z a0))] [] μ := by
  unfold f_X5_whyNotNewCustomer at h
  refine g_aload_n C (i := 0) 0 rfl rfl (dk kX5_whyNotNewCustomer 0 rfl) ?_
  refine gI_4_6 C k0 (C.w wd_1_168) (dk kX5_whyNotNewCustomer 1 rfl) ?_
  refine g_bipush C (v := 6) (by decide) (dk kX5_whyNotNewCustomer 2 rfl) ?_
  obtain ⟨x1, ex1, h⟩ := lt_inv h
  have kj2 : G Z X 1 0 0 14 [(0, .ref (za Z a0))] [.int x1] μ := by
    have h9 := Option.some.inj h
    subst h9
    exact g_iret C E rfl rfl (Nat.le_refl 0) (Nat.le_refl 0) (dk kX5_whyNotNewCustomer 7 rfl)
  clear h
  refine g_icmp_lt C (tgt := 13) (dk kX5_whyNotNewCustomer 3 rfl) (by decide) (fun c3 => ?_) (fun c3 => ?_)
  · refine g_iconst C (v := 0) (by decide) (dk kX5_whyNotNewCustomer 6 rfl) ?_
    exact g_nmi (by rw [ex1, if_pos c3]) kj2
  · refine g_iconst C (v := 3) (by decide) (dk kX5_whyNotNewCustomer 4 rfl) ?_
    refine g_goto C (tgt := 14) (dk kX5_whyNotNewCustomer 5 rfl) (by decide) ?_
    exact g_nmi (by rw [ex1, if_neg c3]) kj2
theorem ct_X5_whyNotNewCustomer {l : Launch} {Z : ZZ} {μ : Mm} {a0 : Nat} {r : Int32} (k0 : (zk Z a0).1 = 4) (h : f_X5_whyNotNewCustomer (zk Z) μ a0 = some r) : CtM l Z false yX5_whyNotNewCustomer cX5_whyNotNewCustomer 1 (some .int) 0 0 0 [.ref (za Z a0)] μ (some (.int r)) Z μ := ct_of rfl rfl (Nat.le_of_ble_eq_true rfl) (fun X C E => t_X5_whyNotNewCustomer μ a0 r k0 h C E)

def qX5_whyNotNewDot : List (Nat × Instr × Nat) := [(0, .aload_n 0, 1), (1, .iload_n 1, 1), (2, .invokevirtual 104, 3), (5, .ifCond .eq 7, 3), (8, .iconst 0, 1), (9, .goto 4, 3), (12, .iconst 1, 1), (13, .ireturn, 1)]
theorem kX5_whyNotNewDot : ∀ q ∈ qX5_whyNotNewDot, decode cX5_whyNotNewDot q.1 = .ok q.2 := by decide +kernel
def f_X5_whyNotNewDot (K : Nat → Nat × Nat) (μ : Mm) (a0 : Nat) (a1 : Int32) : Option (Int32) :=
  bd (f_X5_hasDot K μ a0 a1) fun x2 => lt1 (α := Int32) (if x2 = 0 then 1 else 0) fun x3 => some x3
set_option maxRecDepth 100000 in
set_option maxHeartbeats 4000000 in
theorem t_X5_whyNotNewDot {l : Launch} {Z : ZZ} {X : XX} (μ : Mm) (a0 : Nat) (a1 : Int32) (r : Int32) (k0 : (zk Z a0).1 = 4) (h : f_X5_whyNotNewDot (zk Z) μ a0 a1 = some r) (C : Cx l Z false X cX5_whyNotNewDot RX5 2 (some .int)) (E : Ex Z X 1 0 0 (some (.int r)) Z μ) : G Z X 2 0 0 0 [(0, .ref (za Z a0)), (1, .int a1)] [] μ := by
  unfold f_X5_whyNotNewDot at h
  refine g_aload_n C (i := 0) 0 rfl rfl (dk kX5_whyNotNewDot 0 rfl) ?_
  refine g_iload_n C (i := 1) 1 rfl rfl (dk kX5_whyNotNewDot 1 rfl) ?_
  obtain ⟨x2, eq1, h⟩ := bd_inv h
  refine g_callV C E.2 (rest := []) 1 (ct_X5_hasDot k0 eq1) wd_2_206 mm_X5_hasDot ⟨rfl, by decide, by decide, by decide⟩ rfl (by decide) k0 (by decide) rfl rfl (Nat.le_of_ble_eq_true rfl) (by decide) (dk kX5_whyNotNewDot 2 rfl) ?_
  obtain ⟨x3, ex3, h⟩ := lt_inv h
  have kj4 : G Z X 2 0 0 13 [(0, .ref (za Z a0)), (1, .int a1)] [.int x3] μ := by
    have h9 := Option.some.inj h
    subst h9
    exact g_iret C E rfl rfl (Nat.le_refl 0) (Nat.le_refl 0) (dk kX5_whyNotNewDot 7 rfl)
  clear h
  refine g_if_eq C (tgt := 12) (dk kX5_whyNotNewDot 3 rfl) (by decide) (fun c5 => ?_) (fun c5 => ?_)
  · refine g_iconst C (v := 1) (by decide) (dk kX5_whyNotNewDot 6 rfl) ?_
    exact g_nmi (by rw [ex3, if_pos c5]) kj4
  · refine g_iconst C (v := 0) (by decide) (dk kX5_whyNotNewDot 4 rfl) ?_
    refine g_goto C (tgt := 13) (dk kX5_whyNotNewDot 5 rfl) (by decide) ?_
    exact g_nmi (by rw [ex3, if_neg c5]) kj4
theorem ct_X5_whyNotNewDot {l : Launch} {Z : ZZ} {μ : Mm} {a0 : Nat} {a1 : Int32} {r : Int32} (k0 : (zk Z a0).1 = 4) (h : f_X5_whyNotNewDot (zk Z) μ a0 a1 = some r) : CtM l Z false yX5_whyNotNewDot cX5_whyNotNewDot 2 (some .int) 1 0 0 [.ref (za Z a0), .int a1] μ (some (.int r)) Z μ := ct_of rfl rfl (Nat.le_of_ble_eq_true rfl) (fun X C E => t_X5_whyNotNewDot μ a0 a1 r k0 h C E)

def qX5_whyNotNewHead : List (Nat × Instr × Nat) := [(0, .iload_n 1, 1), (1, .iconst 4, 1), (2, .if_icmp .lt 9, 3), (5, .iload_n 1, 1), (6, .bipush 24, 2), (8, .if_icmp .le 7, 3), (11, .iconst 2, 1), (12, .goto 4, 3), (15, .iconst 0, 1), (16, .ireturn, 1)]
theorem kX5_whyNotNewHead : ∀ q ∈ qX5_whyNotNewHead, decode cX5_whyNotNewHead q.1 = .ok q.2 := by decide +kernel
def f_X5_whyNotNewHead (a0 : Nat) (a1 : Int32) : Option (Int32) :=
  lt1 (α := Int32) (if a1 < 4 then 2 else (if a1 ≤ 24 then 0 else 2)) fun x1 => some x1
set_option maxRecDepth 100000 in
set_option maxHeartbeats 4000000 in
theorem t_X5_whyNotNewHead {l : Launch} {Z : ZZ} {X : XX} (μ : Mm) (a0 : Nat) (a1 : Int32) (r : Int32) (k0 : (zk Z a0).1 = 4) (h : f_X5_whyNotNewHead a0 a1 = some r) (C : Cx l Z false X cX5_whyNotNewHead RX5 2 (some .int)) (E : Ex Z X 0 0 0 (some (.int r)) Z μ) : G Z X 2 0 0 0 [(0, .ref (za Z a0)), (1, .int a1)] [] μ := by
  unfold f_X5_whyNotNewHead at h
  refine g_iload_n C (i := 1) 1 rfl rfl (dk kX5_whyNotNewHead 0 rfl) ?_
  refine g_iconst C (v := 4) (by decide) (dk kX5_whyNotNewHead 1 rfl) ?_
  obtain ⟨x1, ex1, h⟩ := lt_inv h
  have kj2 : G Z X 2 0 0 16 [(0, .ref (za Z a0)), (1, .int a1)] [.int x1] μ := by
    have h9 := Option.some.inj h
    subst h9
    exact g_iret C E rfl rfl (Nat.le_refl 0) (Nat.le_refl 0) (dk kX5_whyNotNewHead 9 rfl)
  clear h
  refine g_icmp_lt C (tgt := 11) (dk kX5_whyNotNewHead 2 rfl) (by decide) (fun c3 => ?_) (fun c3 => ?_)
  · refine g_iconst C (v := 2) (by decide) (dk kX5_whyNotNewHead 6 rfl) ?_
    refine g_goto C (tgt := 16) (dk kX5_whyNotNewHead 7 rfl) (by decide) ?_
    exact g_nmi (by rw [ex1, if_pos c3]) kj2
  · refine g_iload_n C (i := 1) 1 rfl rfl (dk kX5_whyNotNewHead 3 rfl) ?_
    refine g_bipush C (v := 24) (by decide) (dk kX5_whyNotNewHead 4 rfl) ?_
    refine g_icmp_le C (tgt := 15) (dk kX5_whyNotNewHead 5 rfl) (by decide) (fun c4 => ?_) (fun c4 => ?_)
    · refine g_iconst C (v := 0) (by decide) (dk kX5_whyNotNewHead 8 rfl) ?_
      exact g_nmi (by rw [ex1, if_neg c3, if_pos c4]) kj2
    · refine g_iconst C (v := 2) (by decide) (dk kX5_whyNotNewHead 6 rfl) ?_
      refine g_goto C (tgt := 16) (dk kX5_whyNotNewHead 7 rfl) (by decide) ?_
      exact g_nmi (by rw [ex1, if_neg c3, if_neg c4]) kj2
theorem ct_X5_whyNotNewHead {l : Launch} {Z : ZZ} {μ : Mm} {a0 : Nat} {a1 : Int32} {r : Int32} (k0 : (zk Z a0).1 = 4) (h : f_X5_whyNotNewHead a0 a1 = some r) : CtM l Z false yX5_whyNotNewHead cX5_whyNotNewHead 2 (some .int) 0 0 0 [.ref (za Z a0), .int a1] μ (some (.int r)) Z μ := ct_of rfl rfl (Nat.le_of_ble_eq_true rfl) (fun X C E => t_X5_whyNotNewHead μ a0 a1 r k0 h C E)

def qX5_whyNotNewLabel : List (Nat × Instr × Nat) := [(0, .iload_n 1, 1), (1, .iconst 1, 1), (2, .if_icmp .lt 20, 3), (5, .iload_n 1, 1), (6, .bipush 12, 2), (8, .if_icmp .gt 14, 3), (11, .iload_n 2, 1), (12, .iconst 1, 1), (13, .if_icmp .lt 9, 3), (16, .iload_n 2, 1), (17, .bipush 9, 2), (19, .if_icmp .le 5, 3), (22, .iconst 2, 1), (23, .ireturn, 1), (24, .aload_n 0, 1), (25, .getfield 55, 3), (28, .bipush 6, 2), (30, .if_icmp .lt 7, 3), (33, .iconst 3, 1), (34, .goto 4, 3), (37, .iconst 0, 1), (38, .ireturn, 1)]
theorem kX5_whyNotNewLabel : ∀ q ∈ qX5_whyNotNewLabel, decode cX5_whyNotNewLabel q.1 = .ok q.2 := by decide +kernel
def f_X5_whyNotNewLabel (K : Nat → Nat × Nat) (μ : Mm) (a0 : Nat) (a1 : Int32) (a2 : Int32) : Option (Int32) :=
  if a1 < 1 then (some 2) else (if 12 < a1 then (some 2) else (if a2 < 1 then (some 2) else (if a2 ≤ 9 then (lt1 (α := Int32) (if (μ.1 a0 4) < 6 then 0 else 3) fun x5 => some x5) else (some 2))))
set_option maxRecDepth 100000 in
set_option maxHeartbeats 4000000 in
theorem t_X5_whyNotNewLabel {l : Launch} {Z : ZZ} {X : XX} (μ : Mm) (a0 : Nat) (a1 : Int32) (a2 : Int32) (r : Int32) (k0 : (zk Z a0).1 = 4) (h : f_X5_whyNotNewLabel (zk Z) μ a0 a1 a2 = some r) (C : Cx l Z false X cX5_whyNotNewLabel RX5 3 (some .int)) (E : Ex Z X 0 0 0 (some (.int r)) Z μ) : G Z X 3 0 0 0 [(0, .ref (za Z a0)), (1, .int a1), (2, .int a2)] [] μ := by
  unfold f_X5_whyNotNewLabel at h
  refine g_iload_n C (i := 1) 1 rfl rfl (dk kX5_whyNotNewLabel 0 rfl) ?_
  refine g_iconst C (v := 1) (by decide) (dk kX5_whyNotNewLabel 1 rfl) ?_
  refine g_icmp_lt C (tgt := 22) (dk kX5_whyNotNewLabel 2 rfl) (by decide) (fun c1 => ?_) (fun c1 => ?_)
  · replace h := ite_t h c1
    refine g_iconst C (v := 2) (by decide) (dk kX5_whyNotNewLabel 12 rfl) ?_
    have h9 := Option.some.inj h
    subst h9
    exact g_iret C E rfl rfl (Nat.le_refl 0) (Nat.le_refl 0) (dk kX5_whyNotNewLabel 13 rfl)
  · replace h := ite_f h c1
    refine g_iload_n C (i := 1) 1 rfl rfl (dk kX5_whyNotNewLabel 3 rfl) ?_
    refine g_bipush C (v := 12) (by decide) (dk kX5_whyNotNewLabel 4 rfl) ?_
    refine g_icmp_gt C (tgt := 22) (dk kX5_whyNotNewLabel 5 rfl) (by decide) (fun c2 => ?_) (fun c2 => ?_)
    · replace h := ite_t h c2
      refine g_iconst C (v := 2) (by decide) (dk kX5_whyNotNewLabel 12 rfl) ?_
      have h9 := Option.some.inj h
      subst h9
      exact g_iret C E rfl rfl (Nat.le_refl 0) (Nat.le_refl 0) (dk kX5_whyNotNewLabel 13 rfl)
    · replace h := ite_f h c2
      refine g_iload_n C (i := 2) 2 rfl rfl (dk kX5_whyNotNewLabel 6 rfl) ?_
      refine g_iconst C (v := 1) (by decide) (dk kX5_whyNotNewLabel 7 rfl) ?_
      refine g_icmp_lt C (tgt := 22) (dk kX5_whyNotNewLabel 8 rfl) (by decide) (fun c3 => ?_) (fun c3 => ?_)
      · replace h := ite_t h c3
        refine g_iconst C (v := 2) (by decide) (dk kX5_whyNotNewLabel 12 rfl) ?_
        have h9 := Option.some.inj h
        subst h9
        exact g_iret C E rfl rfl (Nat.le_refl 0) (Nat.le_refl 0) (dk kX5_whyNotNewLabel 13 rfl)
      · replace h := ite_f h c3
        refine g_iload_n C (i := 2) 2 rfl rfl (dk kX5_whyNotNewLabel 9 rfl) ?_
        refine g_bipush C (v := 9) (by decide) (dk kX5_whyNotNewLabel 10 rfl) ?_
        refine g_icmp_le C (tgt := 24) (dk kX5_whyNotNewLabel 11 rfl) (by decide) (fun c4 => ?_) (fun c4 => ?_)
        · replace h := ite_t h c4
          refine g_aload_n C (i := 0) 0 rfl rfl (dk kX5_whyNotNewLabel 14 rfl) ?_
          refine gI_4_4 C k0 (C.w wd_1_165) (dk kX5_whyNotNewLabel 15 rfl) ?_
          refine g_bipush C (v := 6) (by decide) (dk kX5_whyNotNewLabel 16 rfl) ?_
          obtain ⟨x5, ex5, h⟩ := lt_inv h
          have kj6 : G Z X 3 0 0 38 [(0, .ref (za Z a0)), (1, .int a1), (2, .int a2)] [.int x5] μ := by
            have h9 := Option.some.inj h
            subst h9
            exact g_iret C E rfl rfl (Nat.le_refl 0) (Nat.le_refl 0) (dk kX5_whyNotNewLabel 21 rfl)
          clear h
          refine g_icmp_lt C (tgt := 37) (dk kX5_whyNotNewLabel 17 rfl) (by decide) (fun c7 => ?_) (fun c7 => ?_)
          · refine g_iconst C (v := 0) (by decide) (dk kX5_whyNotNewLabel 20 rfl) ?_
            exact g_nmi (by rw [ex5, if_pos c7]) kj6
          · refine g_iconst C (v := 3) (by decide) (dk kX5_whyNotNewLabel 18 rfl) ?_
            refine g_goto C (tgt := 38) (dk kX5_whyNotNewLabel 19 rfl) (by decide) ?_
            exact g_nmi (by rw [ex5, if_neg c7]) kj6
        · replace h := ite_f h c4
          refine g_iconst C (v := 2) (by decide) (dk kX5_whyNotNewLabel 12 rfl) ?_
          have h9 := Option.some.inj h
          subst h9
          exact g_iret C E rfl rfl (Nat.le_refl 0) (Nat.le_refl 0) (dk kX5_whyNotNewLabel 13 rfl)
theorem ct_X5_whyNotNewLabel {l : Launch} {Z : ZZ} {μ : Mm} {a0 : Nat} {a1 : Int32} {a2 : Int32} {r : Int32} (k0 : (zk Z a0).1 = 4) (h : f_X5_whyNotNewLabel (zk Z) μ a0 a1 a2 = some r) : CtM l Z false yX5_whyNotNewLabel cX5_whyNotNewLabel 3 (some .int) 0 0 0 [.ref (za Z a0), .int a1, .int a2] μ (some (.int r)) Z μ := ct_of rfl rfl (Nat.le_of_ble_eq_true rfl) (fun X C E => t_X5_whyNotNewLabel μ a0 a1 a2 r k0 h C E)

def qX5_whyNotPair : List (Nat × Instr × Nat) := [(0, .aload_n 0, 1), (1, .iload_n 1, 1), (2, .invokevirtual 119, 3), (5, .ifCond .eq 15, 3), (8, .aload_n 0, 1), (9, .iload_n 2, 1), (10, .invokevirtual 94, 3), (13, .ifCond .eq 7, 3), (16, .iconst 0, 1), (17, .goto 4, 3), (20, .iconst 1, 1), (21, .ireturn, 1)]
theorem kX5_whyNotPair : ∀ q ∈ qX5_whyNotPair, decode cX5_whyNotPair q.1 = .ok q.2 := by decide +kernel
def f_X5_whyNotPair (K : Nat → Nat × Nat) (μ : Mm) (a0 : Nat) (a1 : Int32) (a2 : Int32) : Option (Int32) :=
  bd (f_X5_hasCustomer K μ a0 a1) fun x2 => if x2 = 0 then (some 1) else (bd (f_X5_hasLabel K μ a0 a2) fun x5 => lt1 (α := Int32) (if x5 = 0 then 1 else 0) fun x6 => some x6)
set_option maxRecDepth 100000 in
set_option maxHeartbeats 4000000 in
theorem t_X5_whyNotPair {l : Launch} {Z : ZZ} {X : XX} (μ : Mm) (a0 : Nat) (a1 : Int32) (a2 : Int32) (r : Int32) (k0 : (zk Z a0).1 = 4) (h : f_X5_whyNotPair (zk Z) μ a0 a1 a2 = some r) (C : Cx l Z false X cX5_whyNotPair RX5 3 (some .int)) (E : Ex Z X 1 0 0 (some (.int r)) Z μ) : G Z X 3 0 0 0 [(0, .ref (za Z a0)), (1, .int a1), (2, .int a2)] [] μ := by
  unfold f_X5_whyNotPair at h
  refine g_aload_n C (i := 0) 0 rfl rfl (dk kX5_whyNotPair 0 rfl) ?_
  refine g_iload_n C (i := 1) 1 rfl rfl (dk kX5_whyNotPair 1 rfl) ?_
  obtain ⟨x2, eq1, h⟩ := bd_inv h
  refine g_callV C E.2 (rest := []) 1 (ct_X5_hasCustomer k0 eq1) wd_3_27 mm_X5_hasCustomer ⟨rfl, by decide, by decide, by decide⟩ rfl (by decide) k0 (by decide) rfl rfl (Nat.le_of_ble_eq_true rfl) (by decide) (dk kX5_whyNotPair 2 rfl) ?_
  refine g_if_eq C (tgt := 20) (dk kX5_whyNotPair 3 rfl) (by decide) (fun c3 => ?_) (fun c3 => ?_)
  · replace h := ite_t h c3
    refine g_iconst C (v := 1) (by decide) (dk kX5_whyNotPair 10 rfl) ?_
    have h9 := Option.some.inj h
    subst h9
    exact g_iret C E rfl rfl (Nat.le_refl 0) (Nat.le_refl 0) (dk kX5_whyNotPair 11 rfl)
  · replace h := ite_f h c3
    refine g_aload_n C (i := 0) 0 rfl rfl (dk kX5_whyNotPair 4 rfl) ?_
    refine g_iload_n C (i := 2) 2 rfl rfl (dk kX5_whyNotPair 5 rfl) ?_
    obtain ⟨x5, eq4, h⟩ := bd_inv h
    refine g_callV C E.2 (rest := []) 1 (ct_X5_hasLabel k0 eq4) wd_2_182 mm_X5_hasLabel ⟨rfl, by decide, by decide, by decide⟩ rfl (by decide) k0 (by decide) rfl rfl (Nat.le_of_ble_eq_true rfl) (by decide) (dk kX5_whyNotPair 6 rfl) ?_
    obtain ⟨x6, ex6, h⟩ := lt_inv h
    have kj7 : G Z X 3 0 0 21 [(0, .ref (za Z a0)), (1, .int a1), (2, .int a2)] [.int x6] μ := by
      have h9 := Option.some.inj h
      subst h9
      exact g_iret C E rfl rfl (Nat.le_refl 0) (Nat.le_refl 0) (dk kX5_whyNotPair 11 rfl)
    clear h
    refine g_if_eq C (tgt := 20) (dk kX5_whyNotPair 7 rfl) (by decide) (fun c8 => ?_) (fun c8 => ?_)
    · refine g_iconst C (v := 1) (by decide) (dk kX5_whyNotPair 10 rfl) ?_
      exact g_nmi (by rw [ex6, if_pos c8]) kj7
    · refine g_iconst C (v := 0) (by decide) (dk kX5_whyNotPair 8 rfl) ?_
      refine g_goto C (tgt := 21) (dk kX5_whyNotPair 9 rfl) (by decide) ?_
      exact g_nmi (by rw [ex6, if_neg c8]) kj7
theorem ct_X5_whyNotPair {l : Launch} {Z : ZZ} {μ : Mm} {a0 : Nat} {a1 : Int32} {a2 : Int32} {r : Int32} (k0 : (zk Z a0).1 = 4) (h : f_X5_whyNotPair (zk Z) μ a0 a1 a2 = some r) : CtM l Z false yX5_whyNotPair cX5_whyNotPair 3 (some .int) 1 0 0 [.ref (za Z a0), .int a1, .int a2] μ (some (.int r)) Z μ := ct_of rfl rfl (Nat.le_of_ble_eq_true rfl) (fun X C E => t_X5_whyNotPair μ a0 a1 a2 r k0 h C E)

def qX5_whyNotPassLines : List (Nat × Instr × Nat) := [(0, .iload_n 1, 1), (1, .iconst 1, 1), (2, .if_icmp .lt 9, 3), (5, .iload_n 1, 1), (6, .bipush 20, 2), (8, .if_icmp .le 7, 3), (11, .iconst 2, 1), (12, .goto 4, 3), (15, .iconst 0, 1), (16, .ireturn, 1)]
theorem kX5_whyNotPassLines : ∀ q ∈ qX5_whyNotPassLines, decode cX5_whyNotPassLines q.1 = .ok q.2 := by decide +kernel
def f_X5_whyNotPassLines (a0 : Nat) (a1 : Int32) : Option (Int32) :=
  lt1 (α := Int32) (if a1 < 1 then 2 else (if a1 ≤ 20 then 0 else 2)) fun x1 => some x1
set_option maxRecDepth 100000 in
set_option maxHeartbeats 4000000 in
theorem t_X5_whyNotPassLines {l : Launch} {Z : ZZ} {X : XX} (μ : Mm) (a0 : Nat) (a1 : Int32) (r : Int32) (k0 : (zk Z a0).1 = 4) (h : f_X5_whyNotPassLines a0 a1 = some r) (C : Cx l Z false X cX5_whyNotPassLines RX5 2 (some .int)) (E : Ex Z X 0 0 0 (some (.int r)) Z μ) : G Z X 2 0 0 0 [(0, .ref (za Z a0)), (1, .int a1)] [] μ := by
  unfold f_X5_whyNotPassLines at h
  refine g_iload_n C (i := 1) 1 rfl rfl (dk kX5_whyNotPassLines 0 rfl) ?_
  refine g_iconst C (v := 1) (by decide) (dk kX5_whyNotPassLines 1 rfl) ?_
  obtain ⟨x1, ex1, h⟩ := lt_inv h
  have kj2 : G Z X 2 0 0 16 [(0, .ref (za Z a0)), (1, .int a1)] [.int x1] μ := by
    have h9 := Option.some.inj h
    subst h9
    exact g_iret C E rfl rfl (Nat.le_refl 0) (Nat.le_refl 0) (dk kX5_whyNotPassLines 9 rfl)
  clear h
  refine g_icmp_lt C (tgt := 11) (dk kX5_whyNotPassLines 2 rfl) (by decide) (fun c3 => ?_) (fun c3 => ?_)
  · refine g_iconst C (v := 2) (by decide) (dk kX5_whyNotPassLines 6 rfl) ?_
    refine g_goto C (tgt := 16) (dk kX5_whyNotPassLines 7 rfl) (by decide) ?_
    exact g_nmi (by rw [ex1, if_pos c3]) kj2
  · refine g_iload_n C (i := 1) 1 rfl rfl (dk kX5_whyNotPassLines 3 rfl) ?_
    refine g_bipush C (v := 20) (by decide) (dk kX5_whyNotPassLines 4 rfl) ?_
    refine g_icmp_le C (tgt := 15) (dk kX5_whyNotPassLines 5 rfl) (by decide) (fun c4 => ?_) (fun c4 => ?_)
    · refine g_iconst C (v := 0) (by decide) (dk kX5_whyNotPassLines 8 rfl) ?_
      exact g_nmi (by rw [ex1, if_neg c3, if_pos c4]) kj2
    · refine g_iconst C (v := 2) (by decide) (dk kX5_whyNotPassLines 6 rfl) ?_
      refine g_goto C (tgt := 16) (dk kX5_whyNotPassLines 7 rfl) (by decide) ?_
      exact g_nmi (by rw [ex1, if_neg c3, if_neg c4]) kj2
theorem ct_X5_whyNotPassLines {l : Launch} {Z : ZZ} {μ : Mm} {a0 : Nat} {a1 : Int32} {r : Int32} (k0 : (zk Z a0).1 = 4) (h : f_X5_whyNotPassLines a0 a1 = some r) : CtM l Z false yX5_whyNotPassLines cX5_whyNotPassLines 2 (some .int) 0 0 0 [.ref (za Z a0), .int a1] μ (some (.int r)) Z μ := ct_of rfl rfl (Nat.le_of_ble_eq_true rfl) (fun X C E => t_X5_whyNotPassLines μ a0 a1 r k0 h C E)

def qX5_whyNotPrintAt : List (Nat × Instr × Nat) := [(0, .aload_n 0, 1), (1, .iload_n 1, 1), (2, .iload_n 2, 1), (3, .iload_n 3, 1), (4, .invokevirtual 138, 3), (7, .istore 4, 2), (9, .iload 4, 2), (11, .ifCond .eq 6, 3), (14, .iload 4, 2), (16, .ireturn, 1), (17, .aload_n 0, 1), (18, .iload_n 1, 1), (19, .iload_n 2, 1), (20, .iload_n 3, 1), (21, .invokevirtual 142, 3), (24, .ifCond .eq 7, 3), (27, .iconst 3, 1), (28, .goto 4, 3), (31, .iconst 0, 1), (32, .ireturn, 1)]
theorem kX5_whyNotPrintAt : ∀ q ∈ qX5_whyNotPrintAt, decode cX5_whyNotPrintAt q.1 = .ok q.2 := by decide +kernel
def f_X5_whyNotPrintAt (K : Nat → Nat × Nat) (μ : Mm) (a0 : Nat) (a1 : Int32) (a2 : Int32) (a3 : Int32) : Option (Int32) :=
  bd (f_X5_whyNotAskAbout K μ a0 a1 a2 a3) fun x2 => if x2 = 0 then (bd (f_X5_reasonAt K μ a0 a1 a2 a3) fun x5 => lt1 (α := Int32) (if x5 = 0 then 0 else 3) fun x6 => some x6) else (some x2)
set_option maxRecDepth 100000 in
set_option maxHeartbeats 4000000 in
theorem t_X5_whyNotPrintAt {l : Launch} {Z : ZZ} {X : XX} (μ : Mm) (a0 : Nat) (a1 : Int32) (a2 : Int32) (a3 : Int32) (r : Int32) (k0 : (zk Z a0).1 = 4) (h : f_X5_whyNotPrintAt (zk Z) μ a0 a1 a2 a3 = some r) (C : Cx l Z false X cX5_whyNotPrintAt RX5 5 (some .int)) (E : Ex Z X 3 0 0 (some (.int r)) Z μ) : G Z X 5 0 0 0 [(0, .ref (za Z a0)), (1, .int a1), (2, .int a2), (3, .int a3)] [] μ := by
  unfold f_X5_whyNotPrintAt at h
  refine g_aload_n C (i := 0) 0 rfl rfl (dk kX5_whyNotPrintAt 0 rfl) ?_
  refine g_iload_n C (i := 1) 1 rfl rfl (dk kX5_whyNotPrintAt 1 rfl) ?_
  refine g_iload_n C (i := 2) 2 rfl rfl (dk kX5_whyNotPrintAt 2 rfl) ?_
  refine g_iload_n C (i := 3) 3 rfl rfl (dk kX5_whyNotPrintAt 3 rfl) ?_
  obtain ⟨x2, eq1, h⟩ := bd_inv h
  refine g_callV C E.2 (rest := []) 3 (ct_X5_whyNotAskAbout k0 eq1) wd_3_86 mm_X5_whyNotAskAbout ⟨rfl, by decide, by decide, by decide⟩ rfl (by decide) k0 (by decide) rfl rfl (Nat.le_of_ble_eq_true rfl) (by decide) (dk kX5_whyNotPrintAt 4 rfl) ?_
  refine g_istore C (i := 4) (lv' := [(4, .int x2), (0, .ref (za Z a0)), (1, .int a1), (2, .int a2), (3, .int a3)]) (dk kX5_whyNotPrintAt 5 rfl) (by decide) rfl ?_
  refine g_iload C (i := 4) 0 rfl (dk kX5_whyNotPrintAt 6 rfl) ?_
  refine g_if_eq C (tgt := 17) (dk kX5_whyNotPrintAt 7 rfl) (by decide) (fun c3 => ?_) (fun c3 => ?_)
  · replace h := ite_t h c3
    refine g_aload_n C (i := 0) 1 rfl rfl (dk kX5_whyNotPrintAt 10 rfl) ?_
    refine g_iload_n C (i := 1) 2 rfl rfl (dk kX5_whyNotPrintAt 11 rfl) ?_
    refine g_iload_n C (i := 2) 3 rfl rfl (dk kX5_whyNotPrintAt 12 rfl) ?_
    refine g_iload_n C (i := 3) 4 rfl rfl (dk kX5_whyNotPrintAt 13 rfl) ?_
    obtain ⟨x5, eq4, h⟩ := bd_inv h
    refine g_callV C E.2 (rest := []) 3 (ct_X5_reasonAt k0 eq4) wd_3_90 mm_X5_reasonAt ⟨rfl, by decide, by decide, by decide⟩ rfl (by decide) k0 (by decide) rfl rfl (Nat.le_of_ble_eq_true rfl) (by decide) (dk kX5_whyNotPrintAt 14 rfl) ?_
    obtain ⟨x6, ex6, h⟩ := lt_inv h
    have kj7 : G Z X 5 0 0 32 [(4, .int x2), (0, .ref (za Z a0)), (1, .int a1), (2, .int a2), (3, .int a3)] [.int x6] μ := by
      have h9 := Option.some.inj h
      subst h9
      exact g_iret C E rfl rfl (Nat.le_refl 0) (Nat.le_refl 0) (dk kX5_whyNotPrintAt 19 rfl)
    clear h
    refine g_if_eq C (tgt := 31) (dk kX5_whyNotPrintAt 15 rfl) (by decide) (fun c8 => ?_) (fun c8 => ?_)
    · refine g_iconst C (v := 0) (by decide) (dk kX5_whyNotPrintAt 18 rfl) ?_
      exact g_nmi (by rw [ex6, if_pos c8]) kj7
    · refine g_iconst C (v := 3) (by decide) (dk kX5_whyNotPrintAt 16 rfl) ?_
      refine g_goto C (tgt := 32) (dk kX5_whyNotPrintAt 17 rfl) (by decide) ?_
      exact g_nmi (by rw [ex6, if_neg c8]) kj7
  · replace h := ite_f h c3
    refine g_iload C (i := 4) 0 rfl (dk kX5_whyNotPrintAt 8 rfl) ?_
    have h9 := Option.some.inj h
    subst h9
    exact g_iret C E rfl rfl (Nat.le_refl 0) (Nat.le_refl 0) (dk kX5_whyNotPrintAt 9 rfl)
theorem ct_X5_whyNotPrintAt {l : Launch} {Z : ZZ} {μ : Mm} {a0 : Nat} {a1 : Int32} {a2 : Int32} {a3 : Int32} {r : Int32} (k0 : (zk Z a0).1 = 4) (h : f_X5_whyNotPrintAt (zk Z) μ a0 a1 a2 a3 = some r) : CtM l Z false yX5_whyNotPrintAt cX5_whyNotPrintAt 5 (some .int) 3 0 0 [.ref (za Z a0), .int a1, .int a2, .int a3] μ (some (.int r)) Z μ := ct_of rfl rfl (Nat.le_of_ble_eq_true rfl) (fun X C E => t_X5_whyNotPrintAt μ a0 a1 a2 a3 r k0 h C E)

def qX5_whyNotPrintAtBest : List (Nat × Instr × Nat) := [(0, .aload_n 0, 1), (1, .iload_n 1, 1), (2, .iload_n 2, 1), (3, .invokevirtual 170, 3), (6, .ifCond .eq 5, 3), (9, .iconst 1, 1), (10, .ireturn, 1), (11, .aload_n 0, 1), (12, .iload_n 1, 1), (13, .iload_n 2, 1), (14, .invokevirtual 174, 3), (17, .iconst (-1), 1), (18, .if_icmp .ne 7, 3), (21, .iconst 3, 1), (22, .goto 4, 3), (25, .iconst 0, 1), (26, .ireturn, 1)]
theorem kX5_whyNotPrintAtBest : ∀ q ∈ qX5_whyNotPrintAtBest, decode cX5_whyNotPrintAtBest q.1 = .ok q.2 := by decide +kernel
def f_X5_whyNotPrintAtBest (K : Nat → Nat × Nat) (μ : Mm) (a0 : Nat) (a1 : Int32) (a2 : Int32) : Option (Int32 × Mm) :=
  bd (f_X5_whyNotPair K μ a0 a1 a2) fun x2 => if x2 = 0 then (bd (f_X5_bestPlace K μ a0 a1 a2) fun q4 => lt1 q4.1 fun x6 => lt1 q4.2 fun μ5 => lt1 (α := Int32) (if x6 = (-1) then 3 else 0) fun x7 => some (x7, μ5)) else (some (1, μ))
set_option maxRecDepth 100000 in
set_option maxHeartbeats 4000000 in
theorem t_X5_whyNotPrintAtBest {l : Launch} {Z : ZZ} {X : XX} (μ : Mm) (a0 : Nat) (a1 : Int32) (a2 : Int32) (r : Int32) (μ' : Mm) (k0 : (zk Z a0).1 = 4) (h : f_X5_whyNotPrintAtBest (zk Z) μ a0 a1 a2 = some (r, μ')) (C : Cx l Z false X cX5_whyNotPrintAtBest RX5 3 (some .int)) (E : Ex Z X 4 0 0 (some (.int r)) Z μ') : G Z X 3 0 0 0 [(0, .ref (za Z a0)), (1, .int a1), (2, .int a2)] [] μ := by
  unfold f_X5_whyNotPrintAtBest at h
  refine g_aload_n C (i := 0) 0 rfl rfl (dk kX5_whyNotPrintAtBest 0 rfl) ?_
  refine g_iload_n C (i := 1) 1 rfl rfl (dk kX5_whyNotPrintAtBest 1 rfl) ?_
  refine g_iload_n C (i := 2) 2 rfl rfl (dk kX5_whyNotPrintAtBest 2 rfl) ?_
  obtain ⟨x2, eq1, h⟩ := bd_inv h
  refine g_callV C E.2 (rest := []) 2 (ct_X5_whyNotPair k0 eq1) wd_3_147 mm_X5_whyNotPair ⟨rfl, by decide, by decide, by decide⟩ rfl (by decide) k0 (by decide) rfl rfl (Nat.le_of_ble_eq_true rfl) (by decide) (dk kX5_whyNotPrintAtBest 3 rfl) ?_
  refine g_if_eq C (tgt := 11) (dk kX5_whyNotPrintAtBest 4 rfl) (by decide) (fun c3 => ?_) (fun c3 => ?_)
  · replace h := ite_t h c3
    refine g_aload_n C (i := 0) 0 rfl rfl (dk kX5_whyNotPrintAtBest 7 rfl) ?_
    refine g_iload_n C (i := 1) 1 rfl rfl (dk kX5_whyNotPrintAtBest 8 rfl) ?_
    refine g_iload_n C (i := 2) 2 rfl rfl (dk kX5_whyNotPrintAtBest 9 rfl) ?_
    obtain ⟨q4, eq4, h⟩ := bd_inv h
    obtain ⟨x6, ex6, h⟩ := lt_inv h
    obtain ⟨μ5, eμ5, h⟩ := lt_inv h
    rw [show q4 = (x6, μ5) from by rw [ex6, eμ5]] at eq4
    refine g_callV C E.2 (rest := []) 2 (ct_X5_bestPlace k0 eq4) wd_3_151 mm_X5_bestPlace ⟨rfl, by decide, by decide, by decide⟩ rfl (by decide) k0 (by decide) rfl rfl (Nat.le_of_ble_eq_true rfl) (by decide) (dk kX5_whyNotPrintAtBest 10 rfl) ?_
    refine g_iconst C (v := (-1)) (by decide) (dk kX5_whyNotPrintAtBest 11 rfl) ?_
    obtain ⟨x7, ex7, h⟩ := lt_inv h
    have kj8 : G Z X 3 0 0 26 [(0, .ref (za Z a0)), (1, .int a1), (2, .int a2)] [.int x7] μ5 := by
      obtain ⟨h8, h9⟩ := Prod.mk.inj (Option.some.inj h)
      subst h8
      subst h9
      exact g_iret C E rfl rfl (Nat.le_refl 0) (Nat.le_refl 0) (dk kX5_whyNotPrintAtBest 16 rfl)
    clear h
    refine g_icmp_ne C (tgt := 25) (dk kX5_whyNotPrintAtBest 12 rfl) (by decide) (fun c9 => ?_) (fun c9 => ?_)
    · refine g_iconst C (v := 0) (by decide) (dk kX5_whyNotPrintAtBest 15 rfl) ?_
      exact g_nmi (by rw [ex7, if_neg c9]) kj8
    · refine g_iconst C (v := 3) (by decide) (dk kX5_whyNotPrintAtBest 13 rfl) ?_
      refine g_goto C (tgt := 26) (dk kX5_whyNotPrintAtBest 14 rfl) (by decide) ?_
      exact g_nmi (by rw [ex7, if_pos c9]) kj8
  · replace h := ite_f h c3
    refine g_iconst C (v := 1) (by decide) (dk kX5_whyNotPrintAtBest 5 rfl) ?_
    obtain ⟨h8, h9⟩ := Prod.mk.inj (Option.some.inj h)
    subst h8
    subst h9
    exact g_iret C E rfl rfl (Nat.le_refl 0) (Nat.le_refl 0) (dk kX5_whyNotPrintAtBest 6 rfl)
theorem ct_X5_whyNotPrintAtBest {l : Launch} {Z : ZZ} {μ : Mm} {a0 : Nat} {a1 : Int32} {a2 : Int32} {r : Int32} {μ' : Mm} (k0 : (zk Z a0).1 = 4) (h : f_X5_whyNotPrintAtBest (zk Z) μ a0 a1 a2 = some (r, μ')) : CtM l Z false yX5_whyNotPrintAtBest cX5_whyNotPrintAtBest 3 (some .int) 4 0 0 [.ref (za Z a0), .int a1, .int a2] μ (some (.int r)) Z μ' := ct_of rfl rfl (Nat.le_of_ble_eq_true rfl) (fun X C E => t_X5_whyNotPrintAtBest μ a0 a1 a2 r μ' k0 h C E)
