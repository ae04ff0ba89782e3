def qX8_least : List (Nat × Instr × Nat) := [(0, .iload_n 0, 1), (1, .iconst 1, 1), (2, .if_icmp .ne 8, 3), (5, .bipush 10, 2), (7, .goto 19, 3), (10, .iload_n 0, 1), (11, .iconst 3, 1), (12, .if_icmp .eq 9, 3), (15, .iload_n 0, 1), (16, .bipush 6, 2), (18, .if_icmp .ne 7, 3), (21, .iconst 1, 1), (22, .goto 4, 3), (25, .iconst 0, 1), (26, .ireturn, 1)]
theorem kX8_least : ∀ q ∈ qX8_least, decode cX8_least q.1 = .ok q.2 := by decide +kernel
def f_X8_least (a0 : Int32) : Option (Int32) :=
  lt1 (α := Int32) (if a0 = 1 then 10 else (if a0 = 3 then 1 else (if a0 = 6 then 1 else 0))) fun x1 => some x1
set_option maxRecDepth 100000 in
set_option maxHeartbeats 4000000 in
theorem t_X8_least {l : Launch} {Z : ZZ} {X : XX} (μ : Mm) (a0 : Int32) (r : Int32)  (h : f_X8_least a0 = some r) (C : Cx l Z false X cX8_least RX8 1 (some .int)) (E : Ex Z X 0 0 0 (some (.int r)) Z μ) : G Z X 1 0 0 0 [(0, .int a0)] [] μ := by
  unfold f_X8_least at h
  refine g_iload_n C (i := 0) 0 rfl rfl (dk kX8_least 0 rfl) ?_
  refine g_iconst C (v := 1) (by decide) (dk kX8_least 1 rfl) ?_
  obtain ⟨x1, ex1, h⟩ := lt_inv h
  have kj2 : G Z X 1 0 0 26 [(0, .int a0)] [.int x1] μ := by
    have h9 := Option.some.inj h
    subst h9
    exact g_iret C E rfl rfl (Nat.le_refl 0) (Nat.le_refl 0) (dk kX8_least 14 rfl)
  clear h
  refine g_icmp_ne C (tgt := 10) (dk kX8_least 2 rfl) (by decide) (fun c3 => ?_) (fun c3 => ?_)
  · refine g_iload_n C (i := 0) 0 rfl rfl (dk kX8_least 5 rfl) ?_
    refine g_iconst C (v := 3) (by decide) (dk kX8_least 6 rfl) ?_
    refine g_icmp_eq C (tgt := 21) (dk kX8_least 7 rfl) (by decide) (fun c4 => ?_) (fun c4 => ?_)
    · refine g_iconst C (v := 1) (by decide) (dk kX8_least 11 rfl) ?_
      refine g_goto C (tgt := 26) (dk kX8_least 12 rfl) (by decide) ?_
      exact g_nmi (by rw [ex1, if_neg c3, if_pos c4]) kj2
    · refine g_iload_n C (i := 0) 0 rfl rfl (dk kX8_least 8 rfl) ?_
      refine g_bipush C (v := 6) (by decide) (dk kX8_least 9 rfl) ?_
      refine g_icmp_ne C (tgt := 25) (dk kX8_least 10 rfl) (by decide) (fun c5 => ?_) (fun c5 => ?_)
      · refine g_iconst C (v := 0) (by decide) (dk kX8_least 13 rfl) ?_
        exact g_nmi (by rw [ex1, if_neg c3, if_neg c4, if_neg c5]) kj2
      · refine g_iconst C (v := 1) (by decide) (dk kX8_least 11 rfl) ?_
        refine g_goto C (tgt := 26) (dk kX8_least 12 rfl) (by decide) ?_
        exact g_nmi (by rw [ex1, if_neg c3, if_neg c4, if_pos c5]) kj2
  · refine g_bipush C (v := 10) (by decide) (dk kX8_least 3 rfl) ?_
    refine g_goto C (tgt := 26) (dk kX8_least 4 rfl) (by decide) ?_
    exact g_nmi (by rw [ex1, if_pos c3]) kj2
theorem ct_X8_least {l : Launch} {Z : ZZ} {μ : Mm} {a0 : Int32} {r : Int32}  (h : f_X8_least a0 = some r) : CtM l Z false yX8_least cX8_least 1 (some .int) 0 0 0 [.int a0] μ (some (.int r)) Z μ := ct_of rfl rfl (Nat.le_of_ble_eq_true rfl) (fun X C E => t_X8_least μ a0 r  h C E)

def qX8_most : List (Nat × Instr × Nat) := [(0, .iload_n 0, 1), (1, .tableswitch 55 0 5 #[39, 42, 45, 55, 49, 52], 39), (40, .bipush 30, 2), (42, .ireturn, 1), (43, .bipush 90, 2), (45, .ireturn, 1), (46, .sipush 9999, 3), (49, .ireturn, 1), (50, .bipush 8, 2), (52, .ireturn, 1), (53, .bipush 20, 2), (55, .ireturn, 1), (56, .bipush 100, 2), (58, .ireturn, 1)]
theorem kX8_most : ∀ q ∈ qX8_most, decode cX8_most q.1 = .ok q.2 := by decide +kernel
def f_X8_most (a0 : Int32) : Option (Int32) :=
  if a0 = 0 then (some 30) else (if a0 = 1 then (some 90) else (if a0 = 2 then (some 9999) else (if a0 = 3 then (some 100) else (if a0 = 4 then (some 8) else (if a0 = 5 then (some 20) else (some 100))))))
set_option maxRecDepth 100000 in
set_option maxHeartbeats 4000000 in
theorem t_X8_most {l : Launch} {Z : ZZ} {X : XX} (μ : Mm) (a0 : Int32) (r : Int32)  (h : f_X8_most a0 = some r) (C : Cx l Z false X cX8_most RX8 1 (some .int)) (E : Ex Z X 0 0 0 (some (.int r)) Z μ) : G Z X 1 0 0 0 [(0, .int a0)] [] μ := by
  unfold f_X8_most at h
  refine g_iload_n C (i := 0) 0 rfl rfl (dk kX8_most 0 rfl) ?_
  by_cases c1 : a0 = 0
  · replace h := ite_t h c1
    refine g_tin C (tgt := 40) (dk kX8_most 1 rfl) (by rw [c1]; decide) (by rw [c1]; decide) (by rw [c1]; rfl) (by decide) ?_
    refine g_bipush C (v := 30) (by decide) (dk kX8_most 2 rfl) ?_
    have h9 := Option.some.inj h
    subst h9
    exact g_iret C E rfl rfl (Nat.le_refl 0) (Nat.le_refl 0) (dk kX8_most 3 rfl)
  · replace h := ite_f h c1
    by_cases c2 : a0 = 1
    · replace h := ite_t h c2
      refine g_tin C (tgt := 43) (dk kX8_most 1 rfl) (by rw [c2]; decide) (by rw [c2]; decide) (by rw [c2]; rfl) (by decide) ?_
      refine g_bipush C (v := 90) (by decide) (dk kX8_most 4 rfl) ?_
      have h9 := Option.some.inj h
      subst h9
      exact g_iret C E rfl rfl (Nat.le_refl 0) (Nat.le_refl 0) (dk kX8_most 5 rfl)
    · replace h := ite_f h c2
      by_cases c3 : a0 = 2
      · replace h := ite_t h c3
        refine g_tin C (tgt := 46) (dk kX8_most 1 rfl) (by rw [c3]; decide) (by rw [c3]; decide) (by rw [c3]; rfl) (by decide) ?_
        refine g_sipush C (v := 9999) (by decide) (dk kX8_most 6 rfl) ?_
        have h9 := Option.some.inj h
        subst h9
        exact g_iret C E rfl rfl (Nat.le_refl 0) (Nat.le_refl 0) (dk kX8_most 7 rfl)
      · replace h := ite_f h c3
        by_cases c4 : a0 = 3
        · replace h := ite_t h c4
          refine g_tin C (tgt := 56) (dk kX8_most 1 rfl) (by rw [c4]; decide) (by rw [c4]; decide) (by rw [c4]; rfl) (by decide) ?_
          refine g_bipush C (v := 100) (by decide) (dk kX8_most 12 rfl) ?_
          have h9 := Option.some.inj h
          subst h9
          exact g_iret C E rfl rfl (Nat.le_refl 0) (Nat.le_refl 0) (dk kX8_most 13 rfl)
        · replace h := ite_f h c4
          by_cases c5 : a0 = 4
          · replace h := ite_t h c5
            refine g_tin C (tgt := 50) (dk kX8_most 1 rfl) (by rw [c5]; decide) (by rw [c5]; decide) (by rw [c5]; rfl) (by decide) ?_
            refine g_bipush C (v := 8) (by decide) (dk kX8_most 8 rfl) ?_
            have h9 := Option.some.inj h
            subst h9
            exact g_iret C E rfl rfl (Nat.le_refl 0) (Nat.le_refl 0) (dk kX8_most 9 rfl)
          · replace h := ite_f h c5
            by_cases c6 : a0 = 5
            · replace h := ite_t h c6
              refine g_tin C (tgt := 53) (dk kX8_most 1 rfl) (by rw [c6]; decide) (by rw [c6]; decide) (by rw [c6]; rfl) (by decide) ?_
              refine g_bipush C (v := 20) (by decide) (dk kX8_most 10 rfl) ?_
              have h9 := Option.some.inj h
              subst h9
              exact g_iret C E rfl rfl (Nat.le_refl 0) (Nat.le_refl 0) (dk kX8_most 11 rfl)
            · replace h := ite_f h c6
              refine g_tout C (tgt := 56) (dk kX8_most 1 rfl) (by have q0 := lv_neT c1 (a := 0) (by decide); have q1 := lv_neT c2 (a := 1) (by decide); have q2 := lv_neT c3 (a := 2) (by decide); have q3 := lv_neT c4 (a := 3) (by decide); have q4 := lv_neT c5 (a := 4) (by decide); have q5 := lv_neT c6 (a := 5) (by decide); omega) (by decide) ?_
              refine g_bipush C (v := 100) (by decide) (dk kX8_most 12 rfl) ?_
              have h9 := Option.some.inj h
              subst h9
              exact g_iret C E rfl rfl (Nat.le_refl 0) (Nat.le_refl 0) (dk kX8_most 13 rfl)
theorem ct_X8_most {l : Launch} {Z : ZZ} {μ : Mm} {a0 : Int32} {r : Int32}  (h : f_X8_most a0 = some r) : CtM l Z false yX8_most cX8_most 1 (some .int) 0 0 0 [.int a0] μ (some (.int r)) Z μ := ct_of rfl rfl (Nat.le_of_ble_eq_true rfl) (fun X C E => t_X8_most μ a0 r  h C E)

def qX8_set : List (Nat × Instr × Nat) := [(0, .aload_n 0, 1), (1, .iload_n 1, 1), (2, .iconst 0, 1), (3, .bipush 6, 2), (5, .invokestatic 36, 3), (8, .ifCond .eq 22, 3), (11, .iload_n 2, 1), (12, .iload_n 1, 1), (13, .invokestatic 59, 3), (16, .iload_n 1, 1), (17, .invokestatic 62, 3), (20, .invokestatic 36, 3), (23, .ifCond .eq 7, 3), (26, .iconst 0, 1), (27, .goto 4, 3), (30, .iconst 1, 1), (31, .invokevirtual 44, 3), (34, .ifCond .eq 5, 3), (37, .iconst 0, 1), (38, .ireturn, 1), (39, .aload_n 0, 1), (40, .invokevirtual 48, 3), (43, .aload_n 0, 1), (44, .getfield 7, 3), (47, .iconst 1, 1), (48, .iload_n 1, 1), (49, .iadd, 1), (50, .iaload, 1), (51, .istore_n 3, 1), (52, .aload_n 0, 1), (53, .getfield 7, 3), (56, .iconst 1, 1), (57, .iload_n 1, 1), (58, .iadd, 1), (59, .iload_n 2, 1), (60, .iastore, 1), (61, .iload_n 3, 1), (62, .ireturn, 1)]
theorem kX8_set : ∀ q ∈ qX8_set, decode cX8_set q.1 = .ok q.2 := by decide +kernel
def f_X8_set (K : Nat → Nat × Nat) (μ : Mm) (a0 : Nat) (a1 : Int32) (a2 : Int32) : Option (Int32 × Mm) :=
  bd (f_X8_in a1 0 6) fun x2 => if x2 = 0 then (bd (f_X8_throwsAt K μ a0 1) fun q4 => lt1 q4.1 fun x6 => lt1 q4.2 fun μ5 => if x6 = 0 then (bd (f_X8_saves K μ5 a0) fun μ9 => bd (rf K μ9 a0 0 8) fun b10 => gd (inb (1 + a1) (K b10).2) <| lt1 (α := Int32) (μ9.1 b10 (ix (1 + a1))) fun x12 => bd (rf K μ9 a0 0 8) fun b13 => gd (inb (1 + a1) (K b13).2) <| lt1 (sI μ9 b13 (ix (1 + a1)) a2) fun μ15 => some (x12, μ15)) else (some (0, μ5))) else (bd (f_X8_least a1) fun x17 => bd (f_X8_most a1) fun x19 => bd (f_X8_in a2 x17 x19) fun x21 => lt1 (α := Int32) (if x21 = 0 then 1 else 0) fun x22 => bd (f_X8_throwsAt K μ a0 x22) fun q24 => lt1 q24.1 fun x26 => lt1 q24.2 fun μ25 => if x26 = 0 then (bd (f_X8_saves K μ25 a0) fun μ29 => bd (rf K μ29 a0 0 8) fun b30 => gd (inb (1 + a1) (K b30).2) <| lt1 (α := Int32) (μ29.1 b30 (ix (1 + a1))) fun x32 => bd (rf K μ29 a0 0 8) fun b33 => gd (inb (1 + a1) (K b33).2) <| lt1 (sI μ29 b33 (ix (1 + a1)) a2) fun μ35 => some (x32, μ35)) else (some (0, μ25)))
set_option maxRecDepth 100000 in
set_option maxHeartbeats 4000000 in
theorem t_X8_set {l : Launch} {Z : ZZ} {X : XX} (μ : Mm) (a0 : Nat) (a1 : Int32) (a2 : Int32) (r : Int32) (μ' : Mm) (k0 : (zk Z a0).1 = 6) (h : f_X8_set (zk Z) μ a0 a1 a2 = some (r, μ')) (C : Cx l Z false X cX8_set RX8 4 (some .int)) (E : Ex Z X 1 0 0 (some (.int r)) Z μ') : G Z X 4 0 0 0 [(0, .ref (za Z a0)), (1, .int a1), (2, .int a2)] [] μ := by
  unfold f_X8_set at h
  refine g_aload_n C (i := 0) 0 rfl rfl (dk kX8_set 0 rfl) ?_
  refine g_iload_n C (i := 1) 1 rfl rfl (dk kX8_set 1 rfl) ?_
  refine g_iconst C (v := 0) (by decide) (dk kX8_set 2 rfl) ?_
  refine g_bipush C (v := 6) (by decide) (dk kX8_set 3 rfl) ?_
  obtain ⟨x2, eq1, h⟩ := bd_inv h
  refine g_callS C E.2 (rest := [.ref (za Z a0)]) 3 (ct_X8_in  eq1) wd_5_45 mm_X8_in ⟨by decide, by decide, by decide⟩ rfl (by decide) rfl (Nat.le_of_ble_eq_true rfl) (by decide) (dk kX8_set 4 rfl) ?_
  refine g_if_eq C (tgt := 30) (dk kX8_set 5 rfl) (by decide) (fun c3 => ?_) (fun c3 => ?_)
  · replace h := ite_t h c3
    refine g_iconst C (v := 1) (by decide) (dk kX8_set 15 rfl) ?_
    obtain ⟨q4, eq4, h⟩ := bd_inv h
    obtain ⟨x6, ex6, h⟩ := lt_inv h
    obtain ⟨μ5, eμ5, h⟩ := lt_inv h
    rw [show q4 = (x6, μ5) from by rw [ex6, eμ5]] at eq4
    refine g_callV C E.2 (rest := []) 1 (ct_X8_throwsAt k0 eq4) wd_5_48 mm_X8_throwsAt ⟨rfl, by decide, by decide, by decide⟩ rfl (by decide) k0 (by decide) rfl rfl (Nat.le_of_ble_eq_true rfl) (by decide) (dk kX8_set 16 rfl) ?_
    refine g_if_eq C (tgt := 39) (dk kX8_set 17 rfl) (by decide) (fun c7 => ?_) (fun c7 => ?_)
    · replace h := ite_t h c7
      refine g_aload_n C (i := 0) 0 rfl rfl (dk kX8_set 20 rfl) ?_
      obtain ⟨μ9, eq8, h⟩ := bd_inv h
      refine g_callV C E.2 (rest := []) 0 (ct_X8_saves k0 eq8) wd_5_52 mm_X8_saves ⟨rfl, by decide, by decide, by decide⟩ rfl (by decide) k0 (by decide) rfl rfl (Nat.le_of_ble_eq_true rfl) (by decide) (dk kX8_set 21 rfl) ?_
      refine g_aload_n C (i := 0) 0 rfl rfl (dk kX8_set 22 rfl) ?_
      obtain ⟨b10, eb10, h⟩ := bd_inv h
      obtain ⟨rb10, kb10⟩ := rf_inv eb10
      refine gR_6_0 C k0 (C.w wd_5_3) rb10 (dk kX8_set 23 rfl) ?_
      refine g_iconst C (v := 1) (by decide) (dk kX8_set 24 rfl) ?_
      refine g_iload_n C (i := 1) 1 rfl rfl (dk kX8_set 25 rfl) ?_
      refine g_iadd C (dk kX8_set 26 rfl) ?_
      obtain ⟨c11, h⟩ := gd_inv h
      refine g_iald C kb10 c11 (dk kX8_set 27 rfl) ?_
      obtain ⟨x12, ex12, h⟩ := lt_inv h
      refine g_nmi ex12 ?_
      refine g_istore_n C (i := 3) (lv' := [(3, .int x12), (0, .ref (za Z a0)), (1, .int a1), (2, .int a2)]) (dk kX8_set 28 rfl) rfl (by decide) rfl ?_
      refine g_aload_n C (i := 0) 1 rfl rfl (dk kX8_set 29 rfl) ?_
      obtain ⟨b13, eb13, h⟩ := bd_inv h
      obtain ⟨rb13, kb13⟩ := rf_inv eb13
      refine gR_6_0 C k0 (C.w wd_5_3) rb13 (dk kX8_set 30 rfl) ?_
      refine g_iconst C (v := 1) (by decide) (dk kX8_set 31 rfl) ?_
      refine g_iload_n C (i := 1) 2 rfl rfl (dk kX8_set 32 rfl) ?_
      refine g_iadd C (dk kX8_set 33 rfl) ?_
      refine g_iload_n C (i := 2) 3 rfl rfl (dk kX8_set 34 rfl) ?_
      obtain ⟨c14, h⟩ := gd_inv h
      obtain ⟨μ15, eμ15, h⟩ := lt_inv h
      refine g_iast C kb13 c14 eμ15 (dk kX8_set 35 rfl) ?_
      refine g_iload_n C (i := 3) 0 rfl rfl (dk kX8_set 36 rfl) ?_
      obtain ⟨h8, h9⟩ := Prod.mk.inj (Option.some.inj h)
      subst h8
      subst h9
      exact g_iret C E rfl rfl (Nat.le_refl 0) (Nat.le_refl 0) (dk kX8_set 37 rfl)
    · replace h := ite_f h c7
      refine g_iconst C (v := 0) (by decide) (dk kX8_set 18 rfl) ?_
      obtain ⟨h8, h9⟩ := Prod.mk.inj (Option.some.inj h)
      subst h8
      subst h9
      exact g_iret C E rfl rfl (Nat.le_refl 0) (Nat.le_refl 0) (dk kX8_set 19 rfl)
  · replace h := ite_f h c3
    refine g_iload_n C (i := 2) 2 rfl rfl (dk kX8_set 6 rfl) ?_
    refine g_iload_n C (i := 1) 1 rfl rfl (dk kX8_set 7 rfl) ?_
    obtain ⟨x17, eq16, h⟩ := bd_inv h
    refine g_callS C E.2 (rest := [.int a2, .ref (za Z a0)]) 1 (ct_X8_least  eq16) wd_5_71 mm_X8_least ⟨by decide, by decide, by decide⟩ rfl (by decide) rfl (Nat.le_of_ble_eq_true rfl) (by decide) (dk kX8_set 8 rfl) ?_
    refine g_iload_n C (i := 1) 1 rfl rfl (dk kX8_set 9 rfl) ?_
    obtain ⟨x19, eq18, h⟩ := bd_inv h
    refine g_callS C E.2 (rest := [.int x17, .int a2, .ref (za Z a0)]) 1 (ct_X8_most  eq18) wd_5_74 mm_X8_most ⟨by decide, by decide, by decide⟩ rfl (by decide) rfl (Nat.le_of_ble_eq_true rfl) (by decide) (dk kX8_set 10 rfl) ?_
    obtain ⟨x21, eq20, h⟩ := bd_inv h
    refine g_callS C E.2 (rest := [.ref (za Z a0)]) 3 (ct_X8_in  eq20) wd_5_45 mm_X8_in ⟨by decide, by decide, by decide⟩ rfl (by decide) rfl (Nat.le_of_ble_eq_true rfl) (by decide) (dk kX8_set 11 rfl) ?_
    obtain ⟨x22, ex22, h⟩ := lt_inv h
    have kj23 : G Z X 4 0 0 31 [(0, .ref (za Z a0)), (1, .int a1), (2, .int a2)] [.int x22, .ref (za Z a0)] μ := by
      obtain ⟨q24, eq24, h⟩ := bd_inv h
      obtain ⟨x26, ex26, h⟩ := lt_inv h
      obtain ⟨μ25, eμ25, h⟩ := lt_inv h
      rw [show q24 = (x26, μ25) from by rw [ex26, eμ25]] at eq24
      refine g_callV C E.2 (rest := []) 1 (ct_X8_throwsAt k0 eq24) wd_5_48 mm_X8_throwsAt ⟨rfl, by decide, by decide, by decide⟩ rfl (by decide) k0 (by decide) rfl rfl (Nat.le_of_ble_eq_true rfl) (by decide) (dk kX8_set 16 rfl) ?_
      refine g_if_eq C (tgt := 39) (dk kX8_set 17 rfl) (by decide) (fun c27 => ?_) (fun c27 => ?_)
      · replace h := ite_t h c27
        refine g_aload_n C (i := 0) 0 rfl rfl (dk kX8_set 20 rfl) ?_
        obtain ⟨μ29, eq28, h⟩ := bd_inv h
        refine g_callV C E.2 (rest := []) 0 (ct_X8_saves k0 eq28) wd_5_52 mm_X8_saves ⟨rfl, by decide, by decide, by decide⟩ rfl (by decide) k0 (by decide) rfl rfl (Nat.le_of_ble_eq_true rfl) (by decide) (dk kX8_set 21 rfl) ?_
        refine g_aload_n C (i := 0) 0 rfl rfl (dk kX8_set 22 rfl) ?_
        obtain ⟨b30, eb30, h⟩ := bd_inv h
        obtain ⟨rb30, kb30⟩ := rf_inv eb30
        refine gR_6_0 C k0 (C.w wd_5_3) rb30 (dk kX8_set 23 rfl) ?_
        refine g_iconst C (v := 1) (by decide) (dk kX8_set 24 rfl) ?_
        refine g_iload_n C (i := 1) 1 rfl rfl (dk kX8_set 25 rfl) ?_
        refine g_iadd C (dk kX8_set 26 rfl) ?_
        obtain ⟨c31, h⟩ := gd_inv h
        refine g_iald C kb30 c31 (dk kX8_set 27 rfl) ?_
        obtain ⟨x32, ex32, h⟩ := lt_inv h
        refine g_nmi ex32 ?_
        refine g_istore_n C (i := 3) (lv' := [(3, .int x32), (0, .ref (za Z a0)), (1, .int a1), (2, .int a2)]) (dk kX8_set 28 rfl) rfl (by decide) rfl ?_
        refine g_aload_n C (i := 0) 1 rfl rfl (dk kX8_set 29 rfl) ?_
        obtain ⟨b33, eb33, h⟩ := bd_inv h
        obtain ⟨rb33, kb33⟩ := rf_inv eb33
        refine gR_6_0 C k0 (C.w wd_5_3) rb33 (dk kX8_set 30 rfl) ?_
        refine g_iconst C (v := 1) (by decide) (dk kX8_set 31 rfl) ?_
        refine g_iload_n C (i := 1) 2 rfl rfl (dk kX8_set 32 rfl) ?_
        refine g_iadd C (dk kX8_set 33 rfl) ?_
        refine g_iload_n C (i := 2) 3 rfl rfl (dk kX8_set 34 rfl) ?_
        obtain ⟨c34, h⟩ := gd_inv h
        obtain ⟨μ35, eμ35, h⟩ := lt_inv h
        refine g_iast C kb33 c34 eμ35 (dk kX8_set 35 rfl) ?_
        refine g_iload_n C (i := 3) 0 rfl rfl (dk kX8_set 36 rfl) ?_
        obtain ⟨h8, h9⟩ := Prod.mk.inj (Option.some.inj h)
        subst h8
        subst h9
        exact g_iret C E rfl rfl (Nat.le_refl 0) (Nat.le_refl 0) (dk kX8_set 37 rfl)
      · replace h := ite_f h c27
        refine g_iconst C (v := 0) (by decide) (dk kX8_set 18 rfl) ?_
        obtain ⟨h8, h9⟩ := Prod.mk.inj (Option.some.inj h)
        subst h8
        subst h9
        exact g_iret C E rfl rfl (Nat.le_refl 0) (Nat.le_refl 0) (dk kX8_set 19 rfl)
    clear h
    refine g_if_eq C (tgt := 30) (dk kX8_set 12 rfl) (by decide) (fun c36 => ?_) (fun c36 => ?_)
    · refine g_iconst C (v := 1) (by decide) (dk kX8_set 15 rfl) ?_
      exact g_nmi (by rw [ex22, if_pos c36]) kj23
    · refine g_iconst C (v := 0) (by decide) (dk kX8_set 13 rfl) ?_
      refine g_goto C (tgt := 31) (dk kX8_set 14 rfl) (by decide) ?_
      exact g_nmi (by rw [ex22, if_neg c36]) kj23
theorem ct_X8_set {l : Launch} {Z : ZZ} {μ : Mm} {a0 : Nat} {a1 : Int32} {a2 : Int32} {r : Int32} {μ' : Mm} (k0 : (zk Z a0).1 = 6) (h : f_X8_set (zk Z) μ a0 a1 a2 = some (r, μ')) : CtM l Z false yX8_set cX8_set 4 (some .int) 1 0 0 [.ref (za Z a0), .int a1, .int a2] μ (some (.int r)) Z μ' := ct_of rfl rfl (Nat.le_of_ble_eq_true rfl) (fun X C E => t_X8_set μ a0 a1 a2 r μ' k0 h C E)

def qX8_does : List (Nat × Instr × Nat) := [(0, .aload_n 0, 1), (1, .getfield 181, 3), (4, .tableswitch 193 0 8 #[52, 63, 80, 103, 108, 131, 154, 171, 182], 52), (56, .aload_n 0, 1), (57, .aload_n 0, 1), (58, .getfield 22, 3), (61, .iconst 0, 1), (62, .iaload, 1), (63, .invokevirtual 194, 3), (66, .ireturn, 1), (67, .aload_n 0, 1), (68, .aload_n 0, 1), (69, .getfield 22, 3), (72, .iconst 0, 1), (73, .iaload, 1), (74, .aload_n 0, 1), (75, .getfield 22, 3), (78, .iconst 1, 1), (79, .iaload, 1), (80, .invokevirtual 197, 3), (83, .ireturn, 1), (84, .aload_n 0, 1), (85, .aload_n 0, 1), (86, .getfield 22, 3), (89, .iconst 0, 1), (90, .iaload, 1), (91, .aload_n 0, 1), (92, .getfield 22, 3), (95, .iconst 1, 1), (96, .iaload, 1), (97, .aload_n 0, 1), (98, .getfield 22, 3), (101, .iconst 2, 1), (102, .iaload, 1), (103, .invokevirtual 200, 3), (106, .ireturn, 1), (107, .aload_n 0, 1), (108, .invokevirtual 203, 3), (111, .ireturn, 1), (112, .aload_n 0, 1), (113, .aload_n 0, 1), (114, .getfield 22, 3), (117, .iconst 0, 1), (118, .iaload, 1), (119, .aload_n 0, 1), (120, .getfield 22, 3), (123, .iconst 1, 1), (124, .iaload, 1), (125, .aload_n 0, 1), (126, .getfield 22, 3), (129, .iconst 2, 1), (130, .iaload, 1), (131, .invokevirtual 206, 3), (134, .ireturn, 1), (135, .aload_n 0, 1), (136, .aload_n 0, 1), (137, .getfield 22, 3), (140, .iconst 0, 1), (141, .iaload, 1), (142, .aload_n 0, 1), (143, .getfield 22, 3), (146, .iconst 1, 1), (147, .iaload, 1), (148, .aload_n 0, 1), (149, .getfield 22, 3), (152, .iconst 2, 1), (153, .iaload, 1), (154, .invokevirtual 209, 3), (157, .ireturn, 1), (158, .aload_n 0, 1), (159, .aload_n 0, 1), (160, .getfield 22, 3), (163, .iconst 0, 1), (164, .iaload, 1), (165, .aload_n 0, 1), (166, .getfield 22, 3), (169, .iconst 1, 1), (170, .iaload, 1), (171, .invokevirtual 212, 3), (174, .ireturn, 1), (175, .aload_n 0, 1), (176, .aload_n 0, 1), (177, .getfield 22, 3), (180, .iconst 0, 1), (181, .iaload, 1), (182, .invokevirtual 215, 3), (185, .ireturn, 1), (186, .aload_n 0, 1), (187, .aload_n 0, 1), (188, .getfield 22, 3), (191, .iconst 0, 1), (192, .iaload, 1), (193, .invokevirtual 218, 3), (196, .ireturn, 1), (197, .aload_n 0, 1), (198, .aload_n 0, 1), (199, .getfield 22, 3), (202, .iconst 0, 1), (203, .iaload, 1), (204, .aload_n 0, 1), (205, .getfield 22, 3), (208, .iconst 1, 1), (209, .iaload, 1), (210, .invokevirtual 221, 3), (213, .ireturn, 1)]
theorem kX8_does : ∀ q ∈ qX8_does, decode cX8_does q.1 = .ok q.2 := by decide +kernel
def f_X8_does (K : Nat → Nat × Nat) (μ : Mm) (a0 : Nat) : Option (Int32 × Mm) :=
  lt1 (α := Int32) (μ.1 a0 9) fun x1 => if x1 = 0 then (bd (rf K μ a0 10 8) fun b3 => gd (inb 0 (K b3).2) <| bd (f_X8_begin K μ a0 (μ.1 b3 (ix 0))) fun q5 => lt1 q5.1 fun x7 => lt1 q5.2 fun μ6 => some (x7, μ6)) else (if x1 = 1 then (bd (rf K μ a0 10 8) fun b9 => gd (inb 0 (K b9).2) <| bd (rf K μ a0 10 8) fun b11 => gd (inb 1 (K b11).2) <| bd (f_X8_addLabel K μ a0 (μ.1 b9 (ix 0)) (μ.1 b11 (ix 1))) fun q13 => lt1 q13.1 fun x15 => lt1 q13.2 fun μ14 => some (x15, μ14)) else (if x1 = 2 then (bd (rf K μ a0 10 8) fun b17 => gd (inb 0 (K b17).2) <| bd (rf K μ a0 10 8) fun b19 => gd (inb 1 (K b19).2) <| bd (rf K μ a0 10 8) fun b21 => gd (inb 2 (K b21).2) <| bd (f_X8_setRow K μ a0 (μ.1 b17 (ix 0)) (μ.1 b19 (ix 1)) (μ.1 b21 (ix 2))) fun q23 => lt1 q23.1 fun x25 => lt1 q23.2 fun μ24 => some (x25, μ24)) else (if x1 = 3 then (bd (f_X8_addCustomer K μ a0) fun q27 => lt1 q27.1 fun x29 => lt1 q27.2 fun μ28 => some (x29, μ28)) else (if x1 = 4 then (bd (rf K μ a0 10 8) fun b31 => gd (inb 0 (K b31).2) <| bd (rf K μ a0 10 8) fun b33 => gd (inb 1 (K b33).2) <| bd (rf K μ a0 10 8) fun b35 => gd (inb 2 (K b35).2) <| bd (f_X8_rent K μ a0 (μ.1 b31 (ix 0)) (μ.1 b33 (ix 1)) (μ.1 b35 (ix 2))) fun q37 => lt1 q37.1 fun x39 => lt1 q37.2 fun μ38 => some (x39, μ38)) else (if x1 = 5 then (bd (rf K μ a0 10 8) fun b41 => gd (inb 0 (K b41).2) <| bd (rf K μ a0 10 8) fun b43 => gd (inb 1 (K b43).2) <| bd (rf K μ a0 10 8) fun b45 => gd (inb 2 (K b45).2) <| bd (f_X8_print K μ a0 (μ.1 b41 (ix 0)) (μ.1 b43 (ix 1)) (μ.1 b45 (ix 2))) fun q47 => lt1 q47.1 fun x49 => lt1 q47.2 fun μ48 => some (x49, μ48)) else (if x1 = 6 then (bd (rf K μ a0 10 8) fun b51 => gd (inb 0 (K b51).2) <| bd (rf K μ a0 10 8) fun b53 => gd (inb 1 (K b53).2) <| bd (f_X8_printBest K μ a0 (μ.1 b51 (ix 0)) (μ.1 b53 (ix 1))) fun q55 => lt1 q55.1 fun x57 => lt1 q55.2 fun μ56 => some (x57, μ56)) else (if x1 = 7 then (bd (rf K μ a0 10 8) fun b59 => gd (inb 0 (K b59).2) <| bd (f_X8_cool K μ a0 (μ.1 b59 (ix 0))) fun q61 => lt1 q61.1 fun x63 => lt1 q61.2 fun μ62 => some (x63, μ62)) else (if x1 = 8 then (bd (rf K μ a0 10 8) fun b65 => gd (inb 0 (K b65).2) <| bd (f_X8_replace K μ a0 (μ.1 b65 (ix 0))) fun q67 => lt1 q67.1 fun x69 => lt1 q67.2 fun μ68 => some (x69, μ68)) else (bd (rf K μ a0 10 8) fun b70 => gd (inb 0 (K b70).2) <| bd (rf K μ a0 10 8) fun b72 => gd (inb 1 (K b72).2) <| bd (f_X8_set K μ a0 (μ.1 b70 (ix 0)) (μ.1 b72 (ix 1))) fun q74 => lt1 q74.1 fun x76 => lt1 q74.2 fun μ75 => some (x76, μ75))))))))))
set_option maxRecDepth 100000 in
set_option maxHeartbeats 4000000 in
theorem t_X8_does {l : Launch} {Z : ZZ} {X : XX} (μ : Mm) (a0 : Nat) (r : Int32) (μ' : Mm) (k0 : (zk Z a0).1 = 6) (h : f_X8_does (zk Z) μ a0 = some (r, μ')) (C : Cx l Z false X cX8_does RX8 1 (some .int)) (E : Ex Z X 6 0 0 (some (.int r)) Z μ') : G Z X 1 0 0 0 [(0, .ref (za Z a0))] [] μ := by
  unfold f_X8_does at h
  refine g_aload_n C (i := 0) 0 rfl rfl (dk kX8_does 0 rfl) ?_
  refine gI_6_9 C k0 (C.w wd_5_12) (dk kX8_does 1 rfl) ?_
  obtain ⟨x1, ex1, h⟩ := lt_inv h
  refine g_nmi ex1 ?_
  by_cases c2 : x1 = 0
  · replace h := ite_t h c2
    refine g_tin C (tgt := 56) (dk kX8_does 2 rfl) (by rw [c2]; decide) (by rw [c2]; decide) (by rw [c2]; rfl) (by decide) ?_
    refine g_aload_n C (i := 0) 0 rfl rfl (dk kX8_does 3 rfl) ?_
    refine g_aload_n C (i := 0) 0 rfl rfl (dk kX8_does 4 rfl) ?_
    obtain ⟨b3, eb3, h⟩ := bd_inv h
    obtain ⟨rb3, kb3⟩ := rf_inv eb3
    refine gR_6_10 C k0 (C.w wd_5_13) rb3 (dk kX8_does 5 rfl) ?_
    refine g_iconst C (v := 0) (by decide) (dk kX8_does 6 rfl) ?_
    obtain ⟨c4, h⟩ := gd_inv h
    refine g_iald C kb3 c4 (dk kX8_does 7 rfl) ?_
    obtain ⟨q5, eq5, h⟩ := bd_inv h
    obtain ⟨x7, ex7, h⟩ := lt_inv h
    obtain ⟨μ6, eμ6, h⟩ := lt_inv h
    rw [show q5 = (x7, μ6) from by rw [ex7, eμ6]] at eq5
    refine g_callV C E.2 (rest := []) 1 (ct_X8_begin k0 eq5) wd_6_72 mm_X8_begin ⟨rfl, by decide, by decide, by decide⟩ rfl (by decide) k0 (by decide) rfl rfl (Nat.le_of_ble_eq_true rfl) (by decide) (dk kX8_does 8 rfl) ?_
    obtain ⟨h8, h9⟩ := Prod.mk.inj (Option.some.inj h)
    subst h8
    subst h9
    exact g_iret C E rfl rfl (Nat.le_refl 0) (Nat.le_refl 0) (dk kX8_does 9 rfl)
  · replace h := ite_f h c2
    by_cases c8 : x1 = 1
    · replace h := ite_t h c8
      refine g_tin C (tgt := 67) (dk kX8_does 2 rfl) (by rw [c8]; decide) (by rw [c8]; decide) (by rw [c8]; rfl) (by decide) ?_
      refine g_aload_n C (i := 0) 0 rfl rfl (dk kX8_does 10 rfl) ?_
      refine g_aload_n C (i := 0) 0 rfl rfl (dk kX8_does 11 rfl) ?_
      obtain ⟨b9, eb9, h⟩ := bd_inv h
      obtain ⟨rb9, kb9⟩ := rf_inv eb9
      refine gR_6_10 C k0 (C.w wd_5_13) rb9 (dk kX8_does 12 rfl) ?_
      refine g_iconst C (v := 0) (by decide) (dk kX8_does 13 rfl) ?_
      obtain ⟨c10, h⟩ := gd_inv h
      refine g_iald C kb9 c10 (dk kX8_does 14 rfl) ?_
      refine g_aload_n C (i := 0) 0 rfl rfl (dk kX8_does 15 rfl) ?_
      obtain ⟨b11, eb11, h⟩ := bd_inv h
      obtain ⟨rb11, kb11⟩ := rf_inv eb11
      refine gR_6_10 C k0 (C.w wd_5_13) rb11 (dk kX8_does 16 rfl) ?_
      refine g_iconst C (v := 1) (by decide) (dk kX8_does 17 rfl) ?_
      obtain ⟨c12, h⟩ := gd_inv h
      refine g_iald C kb11 c12 (dk kX8_does 18 rfl) ?_
      obtain ⟨q13, eq13, h⟩ := bd_inv h
      obtain ⟨x15, ex15, h⟩ := lt_inv h
      obtain ⟨μ14, eμ14, h⟩ := lt_inv h
      rw [show q13 = (x15, μ14) from by rw [ex15, eμ14]] at eq13
      refine g_callV C E.2 (rest := []) 2 (ct_X8_addLabel k0 eq13) wd_6_73 mm_X8_addLabel ⟨rfl, by decide, by decide, by decide⟩ rfl (by decide) k0 (by decide) rfl rfl (Nat.le_of_ble_eq_true rfl) (by decide) (dk kX8_does 19 rfl) ?_
      obtain ⟨h8, h9⟩ := Prod.mk.inj (Option.some.inj h)
      subst h8
      subst h9
      exact g_iret C E rfl rfl (Nat.le_refl 0) (Nat.le_refl 0) (dk kX8_does 20 rfl)
    · replace h := ite_f h c8
      by_cases c16 : x1 = 2
      · replace h := ite_t h c16
        refine g_tin C (tgt := 84) (dk kX8_does 2 rfl) (by rw [c16]; decide) (by rw [c16]; decide) (by rw [c16]; rfl) (by decide) ?_
        refine g_aload_n C (i := 0) 0 rfl rfl (dk kX8_does 21 rfl) ?_
        refine g_aload_n C (i := 0) 0 rfl rfl (dk kX8_does 22 rfl) ?_
        obtain ⟨b17, eb17, h⟩ := bd_inv h
        obtain ⟨rb17, kb17⟩ := rf_inv eb17
        refine gR_6_10 C k0 (C.w wd_5_13) rb17 (dk kX8_does 23 rfl) ?_
        refine g_iconst C (v := 0) (by decide) (dk kX8_does 24 rfl) ?_
        obtain ⟨c18, h⟩ := gd_inv h
        refine g_iald C kb17 c18 (dk kX8_does 25 rfl) ?_
        refine g_aload_n C (i := 0) 0 rfl rfl (dk kX8_does 26 rfl) ?_
        obtain ⟨b19, eb19, h⟩ := bd_inv h
        obtain ⟨rb19, kb19⟩ := rf_inv eb19
        refine gR_6_10 C k0 (C.w wd_5_13) rb19 (dk kX8_does 27 rfl) ?_
        refine g_iconst C (v := 1) (by decide) (dk kX8_does 28 rfl) ?_
        obtain ⟨c20, h⟩ := gd_inv h
        refine g_iald C kb19 c20 (dk kX8_does 29 rfl) ?_
        refine g_aload_n C (i := 0) 0 rfl rfl (dk kX8_does 30 rfl) ?_
        obtain ⟨b21, eb21, h⟩ := bd_inv h
        obtain ⟨rb21, kb21⟩ := rf_inv eb21
        refine gR_6_10 C k0 (C.w wd_5_13) rb21 (dk kX8_does 31 rfl) ?_
        refine g_iconst C (v := 2) (by decide) (dk kX8_does 32 rfl) ?_
        obtain ⟨c22, h⟩ := gd_inv h
        refine g_iald C kb21 c22 (dk kX8_does 33 rfl) ?_
        obtain ⟨q23, eq23, h⟩ := bd_inv h
        obtain ⟨x25, ex25, h⟩ := lt_inv h
        obtain ⟨μ24, eμ24, h⟩ := lt_inv h
        rw [show q23 = (x25, μ24) from by rw [ex25, eμ24]] at eq23
        refine g_callV C E.2 (rest := []) 3 (ct_X8_setRow k0 eq23) wd_6_74 mm_X8_setRow ⟨rfl, by decide, by decide, by decide⟩ rfl (by decide) k0 (by decide) rfl rfl (Nat.le_of_ble_eq_true rfl) (by decide) (dk kX8_does 34 rfl) ?_
        obtain ⟨h8, h9⟩ := Prod.mk.inj (Option.some.inj h)
        subst h8
        subst h9
        exact g_iret C E rfl rfl (Nat.le_refl 0) (Nat.le_refl 0) (dk kX8_does 35 rfl)
      · replace h := ite_f h c16
        by_cases c26 : x1 = 3
        · replace h := ite_t h c26
          refine g_tin C (tgt := 107) (dk kX8_does 2 rfl) (by rw [c26]; decide) (by rw [c26]; decide) (by rw [c26]; rfl) (by decide) ?_
          refine g_aload_n C (i := 0) 0 rfl rfl (dk kX8_does 36 rfl) ?_
          obtain ⟨q27, eq27, h⟩ := bd_inv h
          obtain ⟨x29, ex29, h⟩ := lt_inv h
          obtain ⟨μ28, eμ28, h⟩ := lt_inv h
          rw [show q27 = (x29, μ28) from by rw [ex29, eμ28]] at eq27
          refine g_callV C E.2 (rest := []) 0 (ct_X8_addCustomer k0 eq27) wd_6_75 mm_X8_addCustomer ⟨rfl, by decide, by decide, by decide⟩ rfl (by decide) k0 (by decide) rfl rfl (Nat.le_of_ble_eq_true rfl) (by decide) (dk kX8_does 37 rfl) ?_
          obtain ⟨h8, h9⟩ := Prod.mk.inj (Option.some.inj h)
          subst h8
          subst h9
          exact g_iret C E rfl rfl (Nat.le_refl 0) (Nat.le_refl 0) (dk kX8_does 38 rfl)
        · replace h := ite_f h c26
          by_cases c30 : x1 = 4
          · replace h := ite_t h c30
            refine g_tin C (tgt := 112) (dk kX8_does 2 rfl) (by rw [c30]; decide) (by rw [c30]; decide) (by rw [c30]; rfl) (by decide) ?_
            refine g_aload_n C (i := 0) 0 rfl rfl (dk kX8_does 39 rfl) ?_
            refine g_aload_n C (i := 0) 0 rfl rfl (dk kX8_does 40 rfl) ?_
            obtain ⟨b31, eb31, h⟩ := bd_inv h
            obtain ⟨rb31, kb31⟩ := rf_inv eb31
            refine gR_6_10 C k0 (C.w wd_5_13) rb31 (dk kX8_does 41 rfl) ?_
            refine g_iconst C (v := 0) (by decide) (dk kX8_does 42 rfl) ?_
            obtain ⟨c32, h⟩ := gd_inv h
            refine g_iald C kb31 c32 (dk kX8_does 43 rfl) ?_
            refine g_aload_n C (i := 0) 0 rfl rfl (dk kX8_does 44 rfl) ?_
            obtain ⟨b33, eb33, h⟩ := bd_inv h
            obtain ⟨rb33, kb33⟩ := rf_inv eb33
            refine gR_6_10 C k0 (C.w wd_5_13) rb33 (dk kX8_does 45 rfl) ?_
            refine g_iconst C (v := 1) (by decide) (dk kX8_does 46 rfl) ?_
            obtain ⟨c34, h⟩ := gd_inv h
            refine g_iald C kb33 c34 (dk kX8_does 47 rfl) ?_
            refine g_aload_n C (i := 0) 0 rfl rfl (dk kX8_does 48 rfl) ?_
            obtain ⟨b35, eb35, h⟩ := bd_inv h
            obtain ⟨rb35, kb35⟩ := rf_inv eb35
            refine gR_6_10 C k0 (C.w wd_5_13) rb35 (dk kX8_does 49 rfl) ?_
            refine g_iconst C (v := 2) (by decide) (dk kX8_does 50 rfl) ?_
            obtain ⟨c36, h⟩ := gd_inv h
            refine g_iald C kb35 c36 (dk kX8_does 51 rfl) ?_
            obtain ⟨q37, eq37, h⟩ := bd_inv h
            obtain ⟨x39, ex39, h⟩ := lt_inv h
            obtain ⟨μ38, eμ38, h⟩ := lt_inv h
            rw [show q37 = (x39, μ38) from by rw [ex39, eμ38]] at eq37
            refine g_callV C E.2 (rest := []) 3 (ct_X8_rent k0 eq37) wd_6_76 mm_X8_rent ⟨rfl, by decide, by decide, by decide⟩ rfl (by decide) k0 (by decide) rfl rfl (Nat.le_of_ble_eq_true rfl) (by decide) (dk kX8_does 52 rfl) ?_
            obtain ⟨h8, h9⟩ := Prod.mk.inj (Option.some.inj h)
            subst h8
            subst h9
            exact g_iret C E rfl rfl (Nat.le_refl 0) (Nat.le_refl 0) (dk kX8_does 53 rfl)
          · replace h := ite_f h c30
            by_cases c40 : x1 = 5
            · replace h := ite_t h c40
              refine g_tin C (tgt := 135) (dk kX8_does 2 rfl) (by rw [c40]; decide) (by rw [c40]; decide) (by rw [c40]; rfl) (by decide) ?_
              refine g_aload_n C (i := 0) 0 rfl rfl (dk kX8_does 54 rfl) ?_
              refine g_aload_n C (i := 0) 0 rfl rfl (dk kX8_does 55 rfl) ?_
              obtain ⟨b41, eb41, h⟩ := bd_inv h
              obtain ⟨rb41, kb41⟩ := rf_inv eb41
              refine gR_6_10 C k0 (C.w wd_5_13) rb41 (dk kX8_does 56 rfl) ?_
              refine g_iconst C (v := 0) (by decide) (dk kX8_does 57 rfl) ?_
              obtain ⟨c42, h⟩ := gd_inv h
              refine g_iald C kb41 c42 (dk kX8_does 58 rfl) ?_
              refine g_aload_n C (i := 0) 0 rfl rfl (dk kX8_does 59 rfl) ?_
              obtain ⟨b43, eb43, h⟩ := bd_inv h
              obtain ⟨rb43, kb43⟩ := rf_inv eb43
              refine gR_6_10 C k0 (C.w wd_5_13) rb43 (dk kX8_does 60 rfl) ?_
              refine g_iconst C (v := 1) (by decide) (dk kX8_does 61 rfl) ?_
              obtain ⟨c44, h⟩ := gd_inv h
              refine g_iald C kb43 c44 (dk kX8_does 62 rfl) ?_
              refine g_aload_n C (i := 0) 0 rfl rfl (dk kX8_does 63 rfl) ?_
              obtain ⟨b45, eb45, h⟩ := bd_inv h
              obtain ⟨rb45, kb45⟩ := rf_inv eb45
              refine gR_6_10 C k0 (C.w wd_5_13) rb45 (dk kX8_does 64 rfl) ?_
              refine g_iconst C (v := 2) (by decide) (dk kX8_does 65 rfl) ?_
              obtain ⟨c46, h⟩ := gd_inv h
              refine g_iald C kb45 c46 (dk kX8_does 66 rfl) ?_
              obtain ⟨q47, eq47, h⟩ := bd_inv h
              obtain ⟨x49, ex49, h⟩ := lt_inv h
              obtain ⟨μ48, eμ48, h⟩ := lt_inv h
              rw [show q47 = (x49, μ48) from by rw [ex49, eμ48]] at eq47
              refine g_callV C E.2 (rest := []) 3 (ct_X8_print k0 eq47) wd_6_77 mm_X8_print ⟨rfl, by decide, by decide, by decide⟩ rfl (by decide) k0 (by decide) rfl rfl (Nat.le_of_ble_eq_true rfl) (by decide) (dk kX8_does 67 rfl) ?_
              obtain ⟨h8, h9⟩ := Prod.mk.inj (Option.some.inj h)
              subst h8
              subst h9
              exact g_iret C E rfl rfl (Nat.le_refl 0) (Nat.le_refl 0) (dk kX8_does 68 rfl)
            · replace h := ite_f h c40
              by_cases c50 : x1 = 6
              · replace h := ite_t h c50
                refine g_tin C (tgt := 158) (dk kX8_does 2 rfl) (by rw [c50]; decide) (by rw [c50]; decide) (by rw [c50]; rfl) (by decide) ?_
                refine g_aload_n C (i := 0) 0 rfl rfl (dk kX8_does 69 rfl) ?_
                refine g_aload_n C (i := 0) 0 rfl rfl (dk kX8_does 70 rfl) ?_
                obtain ⟨b51, eb51, h⟩ := bd_inv h
                obtain ⟨rb51, kb51⟩ := rf_inv eb51
                refine gR_6_10 C k0 (C.w wd_5_13) rb51 (dk kX8_does 71 rfl) ?_
                refine g_iconst C (v := 0) (by decide) (dk kX8_does 72 rfl) ?_
                obtain ⟨c52, h⟩ := gd_inv h
                refine g_iald C kb51 c52 (dk kX8_does 73 rfl) ?_
                refine g_aload_n C (i := 0) 0 rfl rfl (dk kX8_does 74 rfl) ?_
                obtain ⟨b53, eb53, h⟩ := bd_inv h
                obtain ⟨rb53, kb53⟩ := rf_inv eb53
                refine gR_6_10 C k0 (C.w wd_5_13) rb53 (dk kX8_does 75 rfl) ?_
                refine g_iconst C (v := 1) (by decide) (dk kX8_does 76 rfl) ?_
                obtain ⟨c54, h⟩ := gd_inv h
                refine g_iald C kb53 c54 (dk kX8_does 77 rfl) ?_
                obtain ⟨q55, eq55, h⟩ := bd_inv h
                obtain ⟨x57, ex57, h⟩ := lt_inv h
                obtain ⟨μ56, eμ56, h⟩ := lt_inv h
                rw [show q55 = (x57, μ56) from by rw [ex57, eμ56]] at eq55
                refine g_callV C E.2 (rest := []) 2 (ct_X8_printBest k0 eq55) wd_6_78 mm_X8_printBest ⟨rfl, by decide, by decide, by decide⟩ rfl (by decide) k0 (by decide) rfl rfl (Nat.le_of_ble_eq_true rfl) (by decide) (dk kX8_does 78 rfl) ?_
                obtain ⟨h8, h9⟩ := Prod.mk.inj (Option.some.inj h)
                subst h8
                subst h9
                exact g_iret C E rfl rfl (Nat.le_refl 0) (Nat.le_refl 0) (dk kX8_does 79 rfl)
              · replace h := ite_f h c50
                by_cases c58 : x1 = 7
                · replace h := ite_t h c58
                  refine g_tin C (tgt := 175) (dk kX8_does 2 rfl) (by rw [c58]; decide) (by rw [c58]; decide) (by rw [c58]; rfl) (by decide) ?_
                  refine g_aload_n C (i := 0) 0 rfl rfl (dk kX8_does 80 rfl) ?_
                  refine g_aload_n C (i := 0) 0 rfl rfl (dk kX8_does 81 rfl) ?_
                  obtain ⟨b59, eb59, h⟩ := bd_inv h
                  obtain ⟨rb59, kb59⟩ := rf_inv eb59
                  refine gR_6_10 C k0 (C.w wd_5_13) rb59 (dk kX8_does 82 rfl) ?_
                  refine g_iconst C (v := 0) (by decide) (dk kX8_does 83 rfl) ?_
                  obtain ⟨c60, h⟩ := gd_inv h
                  refine g_iald C kb59 c60 (dk kX8_does 84 rfl) ?_
                  obtain ⟨q61, eq61, h⟩ := bd_inv h
                  obtain ⟨x63, ex63, h⟩ := lt_inv h
                  obtain ⟨μ62, eμ62, h⟩ := lt_inv h
                  rw [show q61 = (x63, μ62) from by rw [ex63, eμ62]] at eq61
                  refine g_callV C E.2 (rest := []) 1 (ct_X8_cool k0 eq61) wd_6_79 mm_X8_cool ⟨rfl, by decide, by decide, by decide⟩ rfl (by decide) k0 (by decide) rfl rfl (Nat.le_of_ble_eq_true rfl) (by decide) (dk kX8_does 85 rfl) ?_
                  obtain ⟨h8, h9⟩ := Prod.mk.inj (Option.some.inj h)
                  subst h8
                  subst h9
                  exact g_iret C E rfl rfl (Nat.le_refl 0) (Nat.le_refl 0) (dk kX8_does 86 rfl)
                · replace h := ite_f h c58
                  by_cases c64 : x1 = 8
                  · replace h := ite_t h c64
                    refine g_tin C (tgt := 186) (dk kX8_does 2 rfl) (by rw [c64]; decide) (by rw [c64]; decide) (by rw [c64]; rfl) (by decide) ?_
                    refine g_aload_n C (i := 0) 0 rfl rfl (dk kX8_does 87 rfl) ?_
                    refine g_aload_n C (i := 0) 0 rfl rfl (dk kX8_does 88 rfl) ?_
                    obtain ⟨b65, eb65, h⟩ := bd_inv h
                    obtain ⟨rb65, kb65⟩ := rf_inv eb65
                    refine gR_6_10 C k0 (C.w wd_5_13) rb65 (dk kX8_does 89 rfl) ?_
                    refine g_iconst C (v := 0) (by decide) (dk kX8_does 90 rfl) ?_
                    obtain ⟨c66, h⟩ := gd_inv h
                    refine g_iald C kb65 c66 (dk kX8_does 91 rfl) ?_
                    obtain ⟨q67, eq67, h⟩ := bd_inv h
                    obtain ⟨x69, ex69, h⟩ := lt_inv h
                    obtain ⟨μ68, eμ68, h⟩ := lt_inv h
                    rw [show q67 = (x69, μ68) from by rw [ex69, eμ68]] at eq67
                    refine g_callV C E.2 (rest := []) 1 (ct_X8_replace k0 eq67) wd_6_80 mm_X8_replace ⟨rfl, by decide, by decide, by decide⟩ rfl (by decide) k0 (by decide) rfl rfl (Nat.le_of_ble_eq_true rfl) (by decide) (dk kX8_does 92 rfl) ?_
                    obtain ⟨h8, h9⟩ := Prod.mk.inj (Option.some.inj h)
                    subst h8
                    subst h9
                    exact g_iret C E rfl rfl (Nat.le_refl 0) (Nat.le_refl 0) (dk kX8_does 93 rfl)
                  · replace h := ite_f h c64
                    refine g_tout C (tgt := 197) (dk kX8_does 2 rfl) (by have q0 := lv_neT c2 (a := 0) (by decide); have q1 := lv_neT c8 (a := 1) (by decide); have q2 := lv_neT c16 (a := 2) (by decide); have q3 := lv_neT c26 (a := 3) (by decide); have q4 := lv_neT c30 (a := 4) (by decide); have q5 := lv_neT c40 (a := 5) (by decide); have q6 := lv_neT c50 (a := 6) (by decide); have q7 := lv_neT c58 (a := 7) (by decide); have q8 := lv_neT c64 (a := 8) (by decide); omega) (by decide) ?_
                    refine g_aload_n C (i := 0) 0 rfl rfl (dk kX8_does 94 rfl) ?_
                    refine g_aload_n C (i := 0) 0 rfl rfl (dk kX8_does 95 rfl) ?_
                    obtain ⟨b70, eb70, h⟩ := bd_inv h
                    obtain ⟨rb70, kb70⟩ := rf_inv eb70
                    refine gR_6_10 C k0 (C.w wd_5_13) rb70 (dk kX8_does 96 rfl) ?_
                    refine g_iconst C (v := 0) (by decide) (dk kX8_does 97 rfl) ?_
                    obtain ⟨c71, h⟩ := gd_inv h
                    refine g_iald C kb70 c71 (dk kX8_does 98 rfl) ?_
                    refine g_aload_n C (i := 0) 0 rfl rfl (dk kX8_does 99 rfl) ?_
                    obtain ⟨b72, eb72, h⟩ := bd_inv h
                    obtain ⟨rb72, kb72⟩ := rf_inv eb72
                    refine gR_6_10 C k0 (C.w wd_5_13) rb72 (dk kX8_does 100 rfl) ?_
                    refine g_iconst C (v := 1) (by decide) (dk kX8_does 101 rfl) ?_
                    obtain ⟨c73, h⟩ := gd_inv h
                    refine g_iald C kb72 c73 (dk kX8_does 102 rfl) ?_
                    obtain ⟨q74, eq74, h⟩ := bd_inv h
                    obtain ⟨x76, ex76, h⟩ := lt_inv h
                    obtain ⟨μ75, eμ75, h⟩ := lt_inv h
                    rw [show q74 = (x76, μ75) from by rw [ex76, eμ75]] at eq74
                    refine g_callV C E.2 (rest := []) 2 (ct_X8_set k0 eq74) wd_6_81 mm_X8_set ⟨rfl, by decide, by decide, by decide⟩ rfl (by decide) k0 (by decide) rfl rfl (Nat.le_of_ble_eq_true rfl) (by decide) (dk kX8_does 103 rfl) ?_
                    obtain ⟨h8, h9⟩ := Prod.mk.inj (Option.some.inj h)
                    subst h8
                    subst h9
                    exact g_iret C E rfl rfl (Nat.le_refl 0) (Nat.le_refl 0) (dk kX8_does 104 rfl)
theorem ct_X8_does {l : Launch} {Z : ZZ} {μ : Mm} {a0 : Nat} {r : Int32} {μ' : Mm} (k0 : (zk Z a0).1 = 6) (h : f_X8_does (zk Z) μ a0 = some (r, μ')) : CtM l Z false yX8_does cX8_does 1 (some .int) 6 0 0 [.ref (za Z a0)] μ (some (.int r)) Z μ' := ct_of rfl rfl (Nat.le_of_ble_eq_true rfl) (fun X C E => t_X8_does μ a0 r μ' k0 h C E)

def qX8_dot : List (Nat × Instr × Nat) := [(0, .aload_n 0, 1), (1, .aload_n 0, 1), (2, .iload_n 1, 1), (3, .invokevirtual 72, 3), (6, .ifCond .ne 7, 3), (9, .iconst 1, 1), (10, .goto 17, 3), (13, .iload_n 2, 1), (14, .iconst 0, 1), (15, .iconst 4, 1), (16, .invokestatic 36, 3), (19, .ifCond .eq 7, 3), (22, .iconst 0, 1), (23, .goto 4, 3), (26, .iconst 2, 1), (27, .invokevirtual 44, 3), (30, .ifCond .eq 7, 3), (33, .iconst 0, 1), (34, .goto 9, 3), (37, .aload_n 0, 1), (38, .iload_n 1, 1), (39, .iload_n 2, 1), (40, .invokevirtual 134, 3), (43, .ireturn, 1)]
theorem kX8_dot : ∀ q ∈ qX8_dot, decode cX8_dot q.1 = .ok q.2 := by decide +kernel
def f_X8_dot (K : Nat → Nat × Nat) (μ : Mm) (a0 : Nat) (a1 : Int32) (a2 : Int32) : Option (Int32 × Mm) :=
  bd (f_X8_isDot K μ a0 a1) fun x2 => if x2 = 0 then (bd (f_X8_throwsAt K μ a0 1) fun q15 => lt1 q15.1 fun x17 => lt1 q15.2 fun μ16 => if x17 = 0 then (bd (f_X8_valueOf K μ16 a0 a1 a2) fun x20 => some (x20, μ16)) else (some (0, μ16))) else (bd (f_X8_in a2 0 4) fun x5 => lt1 (α := Int32) (if x5 = 0 then 2 else 0) fun x6 => bd (f_X8_throwsAt K μ a0 x6) fun q8 => lt1 q8.1 fun x10 => lt1 q8.2 fun μ9 => if x10 = 0 then (bd (f_X8_valueOf K μ9 a0 a1 a2) fun x13 => some (x13, μ9)) else (some (0, μ9)))
set_option maxRecDepth 100000 in
set_option maxHeartbeats 4000000 in
theorem t_X8_dot {l : Launch} {Z : ZZ} {X : XX} (μ : Mm) (a0 : Nat) (a1 : Int32) (a2 : Int32) (r : Int32) (μ' : Mm) (k0 : (zk Z a0).1 = 6) (h : f_X8_dot (zk Z) μ a0 a1 a2 = some (r, μ')) (C : Cx l Z false X cX8_dot RX8 3 (some .int)) (E : Ex Z X 3 0 0 (some (.int r)) Z μ') : G Z X 3 0 0 0 [(0, .ref (za Z a0)), (1, .int a1), (2, .int a2)] [] μ := by
  unfold f_X8_dot at h
  refine g_aload_n C (i := 0) 0 rfl rfl (dk kX8_dot 0 rfl) ?_
  refine g_aload_n C (i := 0) 0 rfl rfl (dk kX8_dot 1 rfl) ?_
  refine g_iload_n C (i := 1) 1 rfl rfl (dk kX8_dot 2 rfl) ?_
  obtain ⟨x2, eq1, h⟩ := bd_inv h
  refine g_callV C E.2 (rest := [.ref (za Z a0)]) 1 (ct_X8_isDot k0 eq1) wd_5_97 mm_X8_isDot ⟨rfl, by decide, by decide, by decide⟩ rfl (by decide) k0 (by decide) rfl rfl (Nat.le_of_ble_eq_true rfl) (by decide) (dk kX8_dot 3 rfl) ?_
  refine g_if_ne C (tgt := 13) (dk kX8_dot 4 rfl) (by decide) (fun c3 => ?_) (fun c3 => ?_)
  · replace h := ite_f h c3
    refine g_iload_n C (i := 2) 2 rfl rfl (dk kX8_dot 7 rfl) ?_
    refine g_iconst C (v := 0) (by decide) (dk kX8_dot 8 rfl) ?_
    refine g_iconst C (v := 4) (by decide) (dk kX8_dot 9 rfl) ?_
    obtain ⟨x5, eq4, h⟩ := bd_inv h
    refine g_callS C E.2 (rest := [.ref (za Z a0)]) 3 (ct_X8_in  eq4) wd_5_45 mm_X8_in ⟨by decide, by decide, by decide⟩ rfl (by decide) rfl (Nat.le_of_ble_eq_true rfl) (by decide) (dk kX8_dot 10 rfl) ?_
    obtain ⟨x6, ex6, h⟩ := lt_inv h
    have kj7 : G Z X 3 0 0 27 [(0, .ref (za Z a0)), (1, .int a1), (2, .int a2)] [.int x6, .ref (za Z a0)] μ := by
      obtain ⟨q8, eq8, h⟩ := bd_inv h
      obtain ⟨x10, ex10, h⟩ := lt_inv h
      obtain ⟨μ9, eμ9, h⟩ := lt_inv h
      rw [show q8 = (x10, μ9) from by rw [ex10, eμ9]] at eq8
      refine g_callV C E.2 (rest := []) 1 (ct_X8_throwsAt k0 eq8) wd_5_48 mm_X8_throwsAt ⟨rfl, by decide, by decide, by decide⟩ rfl (by decide) k0 (by decide) rfl rfl (Nat.le_of_ble_eq_true rfl) (by decide) (dk kX8_dot 15 rfl) ?_
      refine g_if_eq C (tgt := 37) (dk kX8_dot 16 rfl) (by decide) (fun c11 => ?_) (fun c11 => ?_)
      · replace h := ite_t h c11
        refine g_aload_n C (i := 0) 0 rfl rfl (dk kX8_dot 19 rfl) ?_
        refine g_iload_n C (i := 1) 1 rfl rfl (dk kX8_dot 20 rfl) ?_
        refine g_iload_n C (i := 2) 2 rfl rfl (dk kX8_dot 21 rfl) ?_
        obtain ⟨x13, eq12, h⟩ := bd_inv h
        refine g_callV C E.2 (rest := []) 2 (ct_X8_valueOf k0 eq12) wd_5_197 mm_X8_valueOf ⟨rfl, by decide, by decide, by decide⟩ rfl (by decide) k0 (by decide) rfl rfl (Nat.le_of_ble_eq_true rfl) (by decide) (dk kX8_dot 22 rfl) ?_
        obtain ⟨h8, h9⟩ := Prod.mk.inj (Option.some.inj h)
        subst h8
        subst h9
        exact g_iret C E rfl rfl (Nat.le_refl 0) (Nat.le_refl 0) (dk kX8_dot 23 rfl)
      · replace h := ite_f h c11
        refine g_iconst C (v := 0) (by decide) (dk kX8_dot 17 rfl) ?_
        refine g_goto C (tgt := 43) (dk kX8_dot 18 rfl) (by decide) ?_
        obtain ⟨h8, h9⟩ := Prod.mk.inj (Option.some.inj h)
        subst h8
        subst h9
        exact g_iret C E rfl rfl (Nat.le_refl 0) (Nat.le_refl 0) (dk kX8_dot 23 rfl)
    clear h
    refine g_if_eq C (tgt := 26) (dk kX8_dot 11 rfl) (by decide) (fun c14 => ?_) (fun c14 => ?_)
    · refine g_iconst C (v := 2) (by decide) (dk kX8_dot 14 rfl) ?_
      exact g_nmi (by rw [ex6, if_pos c14]) kj7
    · refine g_iconst C (v := 0) (by decide) (dk kX8_dot 12 rfl) ?_
      refine g_goto C (tgt := 27) (dk kX8_dot 13 rfl) (by decide) ?_
      exact g_nmi (by rw [ex6, if_neg c14]) kj7
  · replace h := ite_t h c3
    refine g_iconst C (v := 1) (by decide) (dk kX8_dot 5 rfl) ?_
    refine g_goto C (tgt := 27) (dk kX8_dot 6 rfl) (by decide) ?_
    obtain ⟨q15, eq15, h⟩ := bd_inv h
    obtain ⟨x17, ex17, h⟩ := lt_inv h
    obtain ⟨μ16, eμ16, h⟩ := lt_inv h
    rw [show q15 = (x17, μ16) from by rw [ex17, eμ16]] at eq15
    refine g_callV C E.2 (rest := []) 1 (ct_X8_throwsAt k0 eq15) wd_5_48 mm_X8_throwsAt ⟨rfl, by decide, by decide, by decide⟩ rfl (by decide) k0 (by decide) rfl rfl (Nat.le_of_ble_eq_true rfl) (by decide) (dk kX8_dot 15 rfl) ?_
    refine g_if_eq C (tgt := 37) (dk kX8_dot 16 rfl) (by decide) (fun c18 => ?_) (fun c18 => ?_)
    · replace h := ite_t h c18
      refine g_aload_n C (i := 0) 0 rfl rfl (dk kX8_dot 19 rfl) ?_
      refine g_iload_n C (i := 1) 1 rfl rfl (dk kX8_dot 20 rfl) ?_
      refine g_iload_n C (i := 2) 2 rfl rfl (dk kX8_dot 21 rfl) ?_
      obtain ⟨x20, eq19, h⟩ := bd_inv h
      refine g_callV C E.2 (rest := []) 2 (ct_X8_valueOf k0 eq19) wd_5_197 mm_X8_valueOf ⟨rfl, by decide, by decide, by decide⟩ rfl (by decide) k0 (by decide) rfl rfl (Nat.le_of_ble_eq_true rfl) (by decide) (dk kX8_dot 22 rfl) ?_
      obtain ⟨h8, h9⟩ := Prod.mk.inj (Option.some.inj h)
      subst h8
      subst h9
      exact g_iret C E rfl rfl (Nat.le_refl 0) (Nat.le_refl 0) (dk kX8_dot 23 rfl)
    · replace h := ite_f h c18
      refine g_iconst C (v := 0) (by decide) (dk kX8_dot 17 rfl) ?_
      refine g_goto C (tgt := 43) (dk kX8_dot 18 rfl) (by decide) ?_
      obtain ⟨h8, h9⟩ := Prod.mk.inj (Option.some.inj h)
      subst h8
      subst h9
      exact g_iret C E rfl rfl (Nat.le_refl 0) (Nat.le_refl 0) (dk kX8_dot 23 rfl)
theorem ct_X8_dot {l : Launch} {Z : ZZ} {μ : Mm} {a0 : Nat} {a1 : Int32} {a2 : Int32} {r : Int32} {μ' : Mm} (k0 : (zk Z a0).1 = 6) (h : f_X8_dot (zk Z) μ a0 a1 a2 = some (r, μ')) : CtM l Z false yX8_dot cX8_dot 3 (some .int) 3 0 0 [.ref (za Z a0), .int a1, .int a2] μ (some (.int r)) Z μ' := ct_of rfl rfl (Nat.le_of_ble_eq_true rfl) (fun X C E => t_X8_dot μ a0 a1 a2 r μ' k0 h C E)

def qX8_endRent : List (Nat × Instr × Nat) := [(0, .aload_n 0, 1), (1, .aload_n 0, 1), (2, .iload_n 1, 1), (3, .invokevirtual 85, 3), (6, .ifCond .ne 7, 3), (9, .iconst 1, 1), (10, .goto 18, 3), (13, .aload_n 0, 1), (14, .iload_n 1, 1), (15, .iconst 0, 1), (16, .invokevirtual 79, 3), (19, .iconst (-1), 1), (20, .if_icmp .ne 7, 3), (23, .iconst 2, 1), (24, .goto 4, 3), (27, .iconst 0, 1), (28, .invokevirtual 44, 3), (31, .ifCond .eq 5, 3), (34, .iconst 0, 1), (35, .ireturn, 1), (36, .aload_n 0, 1), (37, .invokevirtual 48, 3), (40, .aload_n 0, 1), (41, .iload_n 1, 1), (42, .iconst 1, 1), (43, .invokevirtual 79, 3), (46, .aload_n 0, 1), (47, .iload_n 1, 1), (48, .iconst 0, 1), (49, .invokevirtual 79, 3), (52, .isub, 1), (53, .iconst 1, 1), (54, .iadd, 1), (55, .istore_n 2, 1), (56, .aload_n 0, 1), (57, .iload_n 1, 1), (58, .invokevirtual 55, 3), (61, .iload_n 2, 1), (62, .ireturn, 1)]
theorem kX8_endRent : ∀ q ∈ qX8_endRent, decode cX8_endRent q.1 = .ok q.2 := by decide +kernel
def f_X8_endRent (K : Nat → Nat × Nat) (μ : Mm) (a0 : Nat) (a1 : Int32) : Option (Int32 × Mm) :=
  bd (f_X8_isCustomer K μ a0 a1) fun x2 => if x2 = 0 then (bd (f_X8_throwsAt K μ a0 1) fun q22 => lt1 q22.1 fun x24 => lt1 q22.2 fun μ23 => if x24 = 0 then (bd (f_X8_saves K μ23 a0) fun μ27 => bd (f_X8_customerOf K μ27 a0 a1 1) fun x29 => bd (f_X8_customerOf K μ27 a0 a1 0) fun x31 => lt1 (α := Int32) ((x29 - x31) + 1) fun x32 => bd (f_X8_frees K μ27 a0 a1) fun μ34 => some (x32, μ34)) else (some (0, μ23))) else (bd (f_X8_customerOf K μ a0 a1 0) fun x5 => lt1 (α := Int32) (if x5 = (-1) then 2 else 0) fun x6 => bd (f_X8_throwsAt K μ a0 x6) fun q8 => lt1 q8.1 fun x10 => lt1 q8.2 fun μ9 => if x10 = 0 then (bd (f_X8_saves K μ9 a0) fun μ13 => bd (f_X8_customerOf K μ13 a0 a1 1) fun x15 => bd (f_X8_customerOf K μ13 a0 a1 0) fun x17 => lt1 (α := Int32) ((x15 - x17) + 1) fun x18 => bd (f_X8_frees K μ13 a0 a1) fun μ20 => some (x18, μ20)) else (some (0, μ9)))
set_option maxRecDepth 100000 in
set_option maxHeartbeats 4000000 in
theorem t_X8_endRent {l : Launch} {Z : ZZ} {X : XX} (μ : Mm) (a0 : Nat) (a1 : Int32) (r : Int32) (μ' : Mm) (k0 : (zk Z a0).1 = 6) (h : f_X8_endRent (zk Z) μ a0 a1 = some (r, μ')) (C : Cx l Z false X cX8_endRent RX8 3 (some .int)) (E : Ex Z X 2 0 0 (some (.int r)) Z μ') : G Z X 3 0 0 0 [(0, .ref (za Z a0)), (1, .int a1)] [] μ := by
  unfold f_X8_endRent at h
  refine g_aload_n C (i := 0) 0 rfl rfl (dk kX8_endRent 0 rfl) ?_
  refine g_aload_n C (i := 0) 0 rfl rfl (dk kX8_endRent 1 rfl) ?_
  refine g_iload_n C (i := 1) 1 rfl rfl (dk kX8_endRent 2 rfl) ?_
  obtain ⟨x2, eq1, h⟩ := bd_inv h
  refine g_callV C E.2 (rest := [.ref (za Z a0)]) 1 (ct_X8_isCustomer k0 eq1) wd_5_116 mm_X8_isCustomer ⟨rfl, by decide, by decide, by decide⟩ rfl (by decide) k0 (by decide) rfl rfl (Nat.le_of_ble_eq_true rfl) (by decide) (dk kX8_endRent 3 rfl) ?_
  refine g_if_ne C (tgt := 13) (dk kX8_endRent 4 rfl) (by decide) (fun c3 => ?_) (fun c3 => ?_)
  · replace h := ite_f h c3
    refine g_aload_n C (i := 0) 0 rfl rfl (dk kX8_endRent 7 rfl) ?_
    refine g_iload_n C (i := 1) 1 rfl rfl (dk kX8_endRent 8 rfl) ?_
    refine g_iconst C (v := 0) (by decide) (dk kX8_endRent 9 rfl) ?_
    obtain ⟨x5, eq4, h⟩ := bd_inv h
    refine g_callV C E.2 (rest := [.ref (za Z a0)]) 2 (ct_X8_customerOf k0 eq4) wd_5_128 mm_X8_customerOf ⟨rfl, by decide, by decide, by decide⟩ rfl (by decide) k0 (by decide) rfl rfl (Nat.le_of_ble_eq_true rfl) (by decide) (dk kX8_endRent 10 rfl) ?_
    refine g_iconst C (v := (-1)) (by decide) (dk kX8_endRent 11 rfl) ?_
    obtain ⟨x6, ex6, h⟩ := lt_inv h
    have kj7 : G Z X 3 0 0 28 [(0, .ref (za Z a0)), (1, .int a1)] [.int x6, .ref (za Z a0)] μ := by
      obtain ⟨q8, eq8, h⟩ := bd_inv h
      obtain ⟨x10, ex10, h⟩ := lt_inv h
      obtain ⟨μ9, eμ9, h⟩ := lt_inv h
      rw [show q8 = (x10, μ9) from by rw [ex10, eμ9]] at eq8
      refine g_callV C E.2 (rest := []) 1 (ct_X8_throwsAt k0 eq8) wd_5_48 mm_X8_throwsAt ⟨rfl, by decide, by decide, by decide⟩ rfl (by decide) k0 (by decide) rfl rfl (Nat.le_of_ble_eq_true rfl) (by decide) (dk kX8_endRent 16 rfl) ?_
      refine g_if_eq C (tgt := 36) (dk kX8_endRent 17 rfl) (by decide) (fun c11 => ?_) (fun c11 => ?_)
      · replace h := ite_t h c11
        refine g_aload_n C (i := 0) 0 rfl rfl (dk kX8_endRent 20 rfl) ?_
        obtain ⟨μ13, eq12, h⟩ := bd_inv h
        refine g_callV C E.2 (rest := []) 0 (ct_X8_saves k0 eq12) wd_5_52 mm_X8_saves ⟨rfl, by decide, by decide, by decide⟩ rfl (by decide) k0 (by decide) rfl rfl (Nat.le_of_ble_eq_true rfl) (by decide) (dk kX8_endRent 21 rfl) ?_
        refine g_aload_n C (i := 0) 0 rfl rfl (dk kX8_endRent 22 rfl) ?_
        refine g_iload_n C (i := 1) 1 rfl rfl (dk kX8_endRent 23 rfl) ?_
        refine g_iconst C (v := 1) (by decide) (dk kX8_endRent 24 rfl) ?_
        obtain ⟨x15, eq14, h⟩ := bd_inv h
        refine g_callV C E.2 (rest := []) 2 (ct_X8_customerOf k0 eq14) wd_5_128 mm_X8_customerOf ⟨rfl, by decide, by decide, by decide⟩ rfl (by decide) k0 (by decide) rfl rfl (Nat.le_of_ble_eq_true rfl) (by decide) (dk kX8_endRent 25 rfl) ?_
        refine g_aload_n C (i := 0) 0 rfl rfl (dk kX8_endRent 26 rfl) ?_
        refine g_iload_n C (i := 1) 1 rfl rfl (dk kX8_endRent 27 rfl) ?_
        refine g_iconst C (v := 0) (by decide) (dk kX8_endRent 28 rfl) ?_
        obtain ⟨x17, eq16, h⟩ := bd_inv h
        refine g_callV C E.2 (rest := [.int x15]) 2 (ct_X8_customerOf k0 eq16) wd_5_128 mm_X8_customerOf ⟨rfl, by decide, by decide, by decide⟩ rfl (by decide) k0 (by decide) rfl rfl (Nat.le_of_ble_eq_true rfl) (by decide) (dk kX8_endRent 29 rfl) ?_
        refine g_isub C (dk kX8_endRent 30 rfl) ?_
        refine g_iconst C (v := 1) (by decide) (dk kX8_endRent 31 rfl) ?_
        refine g_iadd C (dk kX8_endRent 32 rfl) ?_
        obtain ⟨x18, ex18, h⟩ := lt_inv h
        refine g_nmi ex18 ?_
        refine g_istore_n C (i := 2) (lv' := [(2, .int x18), (0, .ref (za Z a0)), (1, .int a1)]) (dk kX8_endRent 33 rfl) rfl (by decide) rfl ?_
        refine g_aload_n C (i := 0) 1 rfl rfl (dk kX8_endRent 34 rfl) ?_
        refine g_iload_n C (i := 1) 2 rfl rfl (dk kX8_endRent 35 rfl) ?_
        obtain ⟨μ20, eq19, h⟩ := bd_inv h
        refine g_callV C E.2 (rest := []) 1 (ct_X8_frees k0 eq19) wd_5_63 mm_X8_frees ⟨rfl, by decide, by decide, by decide⟩ rfl (by decide) k0 (by decide) rfl rfl (Nat.le_of_ble_eq_true rfl) (by decide) (dk kX8_endRent 36 rfl) ?_
        refine g_iload_n C (i := 2) 0 rfl rfl (dk kX8_endRent 37 rfl) ?_
        obtain ⟨h8, h9⟩ := Prod.mk.inj (Option.some.inj h)
        subst h8
        subst h9
        exact g_iret C E rfl rfl (Nat.le_refl 0) (Nat.le_refl 0) (dk kX8_endRent 38 rfl)
      · replace h := ite_f h c11
        refine g_iconst C (v := 0) (by decide) (dk kX8_endRent 18 rfl) ?_
        obtain ⟨h8, h9⟩ := Prod.mk.inj (Option.some.inj h)
        subst h8
        subst h9
        exact g_iret C E rfl rfl (Nat.le_refl 0) (Nat.le_refl 0) (dk kX8_endRent 19 rfl)
    clear h
    refine g_icmp_ne C (tgt := 27) (dk kX8_endRent 12 rfl) (by decide) (fun c21 => ?_) (fun c21 => ?_)
    · refine g_iconst C (v := 0) (by decide) (dk kX8_endRent 15 rfl) ?_
      exact g_nmi (by rw [ex6, if_neg c21]) kj7
    · refine g_iconst C (v := 2) (by decide) (dk kX8_endRent 13 rfl) ?_
      refine g_goto C (tgt := 28) (dk kX8_endRent 14 rfl) (by decide) ?_
      exact g_nmi (by rw [ex6, if_pos c21]) kj7
  · replace h := ite_t h c3
    refine g_iconst C (v := 1) (by decide) (dk kX8_endRent 5 rfl) ?_
    refine g_goto C (tgt := 28) (dk kX8_endRent 6 rfl) (by decide) ?_
    obtain ⟨q22, eq22, h⟩ := bd_inv h
    obtain ⟨x24, ex24, h⟩ := lt_inv h
    obtain ⟨μ23, eμ23, h⟩ := lt_inv h
    rw [show q22 = (x24, μ23) from by rw [ex24, eμ23]] at eq22
    refine g_callV C E.2 (rest := []) 1 (ct_X8_throwsAt k0 eq22) wd_5_48 mm_X8_throwsAt ⟨rfl, by decide, by decide, by decide⟩ rfl (by decide) k0 (by decide) rfl rfl (Nat.le_of_ble_eq_true rfl) (by decide) (dk kX8_endRent 16 rfl) ?_
    refine g_if_eq C (tgt := 36) (dk kX8_endRent 17 rfl) (by decide) (fun c25 => ?_) (fun c25 => ?_)
    · replace h := ite_t h c25
      refine g_aload_n C (i := 0) 0 rfl rfl (dk kX8_endRent 20 rfl) ?_
      obtain ⟨μ27, eq26, h⟩ := bd_inv h
      refine g_callV C E.2 (rest := []) 0 (ct_X8_saves k0 eq26) wd_5_52 mm_X8_saves ⟨rfl, by decide, by decide, by decide⟩ rfl (by decide) k0 (by decide) rfl rfl (Nat.le_of_ble_eq_true rfl) (by decide) (dk kX8_endRent 21 rfl) ?_
      refine g_aload_n C (i := 0) 0 rfl rfl (dk kX8_endRent 22 rfl) ?_
      refine g_iload_n C (i := 1) 1 rfl rfl (dk kX8_endRent 23 rfl) ?_
      refine g_iconst C (v := 1) (by decide) (dk kX8_endRent 24 rfl) ?_
      obtain ⟨x29, eq28, h⟩ := bd_inv h
      refine g_callV C E.2 (rest := []) 2 (ct_X8_customerOf k0 eq28) wd_5_128 mm_X8_customerOf ⟨rfl, by decide, by decide, by decide⟩ rfl (by decide) k0 (by decide) rfl rfl (Nat.le_of_ble_eq_true rfl) (by decide) (dk kX8_endRent 25 rfl) ?_
      refine g_aload_n C (i := 0) 0 rfl rfl (dk kX8_endRent 26 rfl) ?_
      refine g_iload_n C (i := 1) 1 rfl rfl (dk kX8_endRent 27 rfl) ?_
      refine g_iconst C (v := 0) (by decide) (dk kX8_endRent 28 rfl) ?_
      obtain ⟨x31, eq30, h⟩ := bd_inv h
      refine g_callV C E.2 (rest := [.int x29]) 2 (ct_X8_customerOf k0 eq30) wd_5_128 mm_X8_customerOf ⟨rfl, by decide, by decide, by decide⟩ rfl (by decide) k0 (by decide) rfl rfl (Nat.le_of_ble_eq_true rfl) (by decide) (dk kX8_endRent 29 rfl) ?_
      refine g_isub C (dk kX8_endRent 30 rfl) ?_
      refine g_iconst C (v := 1) (by decide) (dk kX8_endRent 31 rfl) ?_
      refine g_iadd C (dk kX8_endRent 32 rfl) ?_
      obtain ⟨x32, ex32, h⟩ := lt_inv h
      refine g_nmi ex32 ?_
      refine g_istore_n C (i := 2) (lv' := [(2, .int x32), (0, .ref (za Z a0)), (1, .int a1)]) (dk kX8_endRent 33 rfl) rfl (by decide) rfl ?_
      refine g_aload_n C (i := 0) 1 rfl rfl (dk kX8_endRent 34 rfl) ?_
      refine g_iload_n C (i := 1) 2 rfl rfl (dk kX8_endRent 35 rfl) ?_
      obtain ⟨μ34, eq33, h⟩ := bd_inv h
      refine g_callV C E.2 (rest := []) 1 (ct_X8_frees k0 eq33) wd_5_63 mm_X8_frees ⟨rfl, by decide, by decide, by decide⟩ rfl (by decide) k0 (by decide) rfl rfl (Nat.le_of_ble_eq_true rfl) (by decide) (dk kX8_endRent 36 rfl) ?_
      refine g_iload_n C (i := 2) 0 rfl rfl (dk kX8_endRent 37 rfl) ?_
      obtain ⟨h8, h9⟩ := Prod.mk.inj (Option.some.inj h)
      subst h8
      subst h9
      exact g_iret C E rfl rfl (Nat.le_refl 0) (Nat.le_refl 0) (dk kX8_endRent 38 rfl)
    · replace h := ite_f h c25
      refine g_iconst C (v := 0) (by decide) (dk kX8_endRent 18 rfl) ?_
      obtain ⟨h8, h9⟩ := Prod.mk.inj (Option.some.inj h)
      subst h8
      subst h9
      exact g_iret C E rfl rfl (Nat.le_refl 0) (Nat.le_refl 0) (dk kX8_endRent 19 rfl)
theorem ct_X8_endRent {l : Launch} {Z : ZZ} {μ : Mm} {a0 : Nat} {a1 : Int32} {r : Int32} {μ' : Mm} (k0 : (zk Z a0).1 = 6) (h : f_X8_endRent (zk Z) μ a0 a1 = some (r, μ')) : CtM l Z false yX8_endRent cX8_endRent 3 (some .int) 2 0 0 [.ref (za Z a0), .int a1] μ (some (.int r)) Z μ' := ct_of rfl rfl (Nat.le_of_ble_eq_true rfl) (fun X C E => t_X8_endRent μ a0 a1 r μ' k0 h C E)

def qX8_isAt : List (Nat × Instr × Nat) := [(0, .aload_n 0, 1), (1, .getfield 155, 3), (4, .aload_n 0, 1), (5, .getfield 146, 3), (8, .if_icmp .ge 24, 3), (11, .aload_n 0, 1), (12, .getfield 19, 3), (15, .aload_n 0, 1), (16, .getfield 155, 3), (19, .iaload, 1), (20, .iload_n 1, 1), (21, .iload_n 2, 1), (22, .invokestatic 36, 3), (25, .ifCond .eq 7, 3), (28, .iconst 1, 1), (29, .goto 4, 3), (32, .iconst 0, 1), (33, .ireturn, 1)]
theorem kX8_isAt : ∀ q ∈ qX8_isAt, decode cX8_isAt q.1 = .ok q.2 := by decide +kernel
def f_X8_isAt (K : Nat → Nat × Nat) (μ : Mm) (a0 : Nat) (a1 : Int32) (a2 : Int32) : Option (Int32) :=
  if (μ.1 a0 6) ≤ (μ.1 a0 8) then (some 0) else (bd (rf K μ a0 5 8) fun b2 => gd (inb (μ.1 a0 8) (K b2).2) <| bd (f_X8_in (μ.1 b2 (ix (μ.1 a0 8))) a1 a2) fun x5 => lt1 (α := Int32) (if x5 = 0 then 0 else 1) fun x6 => gd (x6 = 0 ∨ x6 = 1) <| some x6)
set_option maxRecDepth 100000 in
set_option maxHeartbeats 4000000 in
theorem t_X8_isAt {l : Launch} {Z : ZZ} {X : XX} (μ : Mm) (a0 : Nat) (a1 : Int32) (a2 : Int32) (r : Int32) (k0 : (zk Z a0).1 = 6) (h : f_X8_isAt (zk Z) μ a0 a1 a2 = some r) (C : Cx l Z false X cX8_isAt RX8 3 (some .boolean)) (E : Ex Z X 1 0 0 (some (.int r)) Z μ) : G Z X 3 0 0 0 [(0, .ref (za Z a0)), (1, .int a1), (2, .int a2)] [] μ := by
  unfold f_X8_isAt at h
  refine g_aload_n C (i := 0) 0 rfl rfl (dk kX8_isAt 0 rfl) ?_
  refine gI_6_8 C k0 (C.w wd_5_11) (dk kX8_isAt 1 rfl) ?_
  refine g_aload_n C (i := 0) 0 rfl rfl (dk kX8_isAt 2 rfl) ?_
  refine gI_6_6 C k0 (C.w wd_5_9) (dk kX8_isAt 3 rfl) ?_
  refine g_icmp_ge C (tgt := 32) (dk kX8_isAt 4 rfl) (by decide) (fun c1 => ?_) (fun c1 => ?_)
  · replace h := ite_t h c1
    refine g_iconst C (v := 0) (by decide) (dk kX8_isAt 16 rfl) ?_
    have h9 := Option.some.inj h
    subst h9
    exact g_iret C E rfl rfl (Nat.le_refl 0) (Nat.le_refl 0) (dk kX8_isAt 17 rfl)
  · replace h := ite_f h c1
    refine g_aload_n C (i := 0) 0 rfl rfl (dk kX8_isAt 5 rfl) ?_
    obtain ⟨b2, eb2, h⟩ := bd_inv h
    obtain ⟨rb2, kb2⟩ := rf_inv eb2
    refine gR_6_5 C k0 (C.w wd_5_8) rb2 (dk kX8_isAt 6 rfl) ?_
    refine g_aload_n C (i := 0) 0 rfl rfl (dk kX8_isAt 7 rfl) ?_
    refine gI_6_8 C k0 (C.w wd_5_11) (dk kX8_isAt 8 rfl) ?_
    obtain ⟨c3, h⟩ := gd_inv h
    refine g_iald C kb2 c3 (dk kX8_isAt 9 rfl) ?_
    refine g_iload_n C (i := 1) 1 rfl rfl (dk kX8_isAt 10 rfl) ?_
    refine g_iload_n C (i := 2) 2 rfl rfl (dk kX8_isAt 11 rfl) ?_
    obtain ⟨x5, eq4, h⟩ := bd_inv h
    refine g_callS C E.2 (rest := []) 3 (ct_X8_in  eq4) wd_5_45 mm_X8_in ⟨by decide, by decide, by decide⟩ rfl (by decide) rfl (Nat.le_of_ble_eq_true rfl) (by decide) (dk kX8_isAt 12 rfl) ?_
    obtain ⟨x6, ex6, h⟩ := lt_inv h
    have kj7 : G Z X 3 0 0 33 [(0, .ref (za Z a0)), (1, .int a1), (2, .int a2)] [.int x6] μ := by
      obtain ⟨c8, h⟩ := gd_inv h
      have h9 := Option.some.inj h
      subst h9
      exact g_iret C E rfl (br0 _ c8) (Nat.le_refl 0) (Nat.le_refl 0) (dk kX8_isAt 17 rfl)
    clear h
    refine g_if_eq C (tgt := 32) (dk kX8_isAt 13 rfl) (by decide) (fun c9 => ?_) (fun c9 => ?_)
    · refine g_iconst C (v := 0) (by decide) (dk kX8_isAt 16 rfl) ?_
      exact g_nmi (by rw [ex6, if_pos c9]) kj7
    · refine g_iconst C (v := 1) (by decide) (dk kX8_isAt 14 rfl) ?_
      refine g_goto C (tgt := 33) (dk kX8_isAt 15 rfl) (by decide) ?_
      exact g_nmi (by rw [ex6, if_neg c9]) kj7
theorem ct_X8_isAt {l : Launch} {Z : ZZ} {μ : Mm} {a0 : Nat} {a1 : Int32} {a2 : Int32} {r : Int32} (k0 : (zk Z a0).1 = 6) (h : f_X8_isAt (zk Z) μ a0 a1 a2 = some r) : CtM l Z false yX8_isAt cX8_isAt 3 (some .boolean) 1 0 0 [.ref (za Z a0), .int a1, .int a2] μ (some (.int r)) Z μ := ct_of rfl rfl (Nat.le_of_ble_eq_true rfl) (fun X C E => t_X8_isAt μ a0 a1 a2 r k0 h C E)

def qX8_skips : List (Nat × Instr × Nat) := [(0, .aload_n 0, 1), (1, .bipush 32, 2), (3, .bipush 32, 2), (5, .invokevirtual 158, 3), (8, .ifCond .eq 16, 3), (11, .aload_n 0, 1), (12, .dup, 1), (13, .getfield 155, 3), (16, .iconst 1, 1), (17, .iadd, 1), (18, .putfield 155, 3), (21, .goto (-21), 3), (24, .return_, 1)]
theorem kX8_skips : ∀ q ∈ qX8_skips, decode cX8_skips q.1 = .ok q.2 := by decide +kernel
def f_X8_skips_l0 (K : Nat → Nat × Nat) (v0 : Nat) : Nat → Mm → Option (Mm)
  | 0, _ => none
  | n + 1, μ => bd (f_X8_isAt K μ v0 32 32) fun x2 => if x2 = 0 then (some μ) else (lt1 (sI μ v0 8 ((μ.1 v0 8) + 1)) fun μ4 => f_X8_skips_l0 K v0 n μ4)
def f_X8_skips (K : Nat → Nat × Nat) (μ : Mm) (a0 : Nat) : Option (Mm) :=
  bd (f_X8_skips_l0 K a0 FU μ) fun q5 => lt1 q5 fun μ6 => some (μ6)
set_option maxRecDepth 100000 in
set_option maxHeartbeats 4000000 in
theorem gl_X8_skips_0 {l : Launch} {Z : ZZ} {X : XX} (v0 : Nat) (k0 : (zk Z v0).1 = 6) (C : Cx l Z false X cX8_skips RX8 1 none) (E : xR X = rmm 2 0 0) : ∀ (n : Nat) (μ : Mm) (y : Mm), f_X8_skips_l0 (zk Z) v0 n μ = some y → G Z X 1 0 0 24 [] [] y → G Z X 1 0 0 0 [(0, .ref (za Z v0))] [] μ := by
  intro n
  induction n with
  | zero => intro μ y h he; unfold f_X8_skips_l0 at h; cases h
  | succ n ih =>
    intro μ y h he
    unfold f_X8_skips_l0 at h
    refine g_aload_n C (i := 0) 0 rfl rfl (dk kX8_skips 0 rfl) ?_
    refine g_bipush C (v := 32) (by decide) (dk kX8_skips 1 rfl) ?_
    refine g_bipush C (v := 32) (by decide) (dk kX8_skips 2 rfl) ?_
    obtain ⟨x2, eq1, h⟩ := bd_inv h
    refine g_callV C E (rest := []) 2 (ct_X8_isAt k0 eq1) wd_6_41 mm_X8_isAt ⟨rfl, by decide, by decide, by decide⟩ rfl (by decide) k0 (by decide) rfl rfl (Nat.le_of_ble_eq_true rfl) (by decide) (dk kX8_skips 3 rfl) ?_
    refine g_if_eq C (tgt := 24) (dk kX8_skips 4 rfl) (by decide) (fun c3 => ?_) (fun c3 => ?_)
    · replace h := ite_t h c3
      cases h
      exact g_sub [] rfl he
    · replace h := ite_f h c3
      refine g_aload_n C (i := 0) 0 rfl rfl (dk kX8_skips 5 rfl) ?_
      refine g_dup C rfl (dk kX8_skips 6 rfl) ?_
      refine gI_6_8 C k0 (C.w wd_5_11) (dk kX8_skips 7 rfl) ?_
      refine g_iconst C (v := 1) (by decide) (dk kX8_skips 8 rfl) ?_
      refine g_iadd C (dk kX8_skips 9 rfl) ?_
      obtain ⟨μ4, eμ4, h⟩ := lt_inv h
      refine pI_6_8 C k0 (C.w wd_5_11) eμ4 (dk kX8_skips 10 rfl) ?_
      refine g_goto C (tgt := 0) (dk kX8_skips 11 rfl) (by decide) ?_
      exact g_sub [0] rfl (ih μ4  y h he)
set_option maxRecDepth 100000 in
set_option maxHeartbeats 4000000 in
theorem t_X8_skips {l : Launch} {Z : ZZ} {X : XX} (μ : Mm) (a0 : Nat) (μ' : Mm) (k0 : (zk Z a0).1 = 6) (h : f_X8_skips (zk Z) μ a0 = some μ') (C : Cx l Z false X cX8_skips RX8 1 none) (E : Ex Z X 2 0 0 none Z μ') : G Z X 1 0 0 0 [(0, .ref (za Z a0))] [] μ := by
  unfold f_X8_skips at h
  obtain ⟨q5, eq5, h⟩ := bd_inv h
  refine g_sub [0] (lv' := [(0, .ref (za Z a0))]) rfl ?_
  refine gl_X8_skips_0 a0 k0 C E.2 FU μ  _ eq5 ?_
  obtain ⟨μ6, eμ6, h⟩ := lt_inv h
  rw [← eμ6]
  have h9 := Option.some.inj h
  subst h9
  exact g_vret C E (Nat.le_refl 0) (Nat.le_refl 0) (dk kX8_skips 12 rfl)
theorem ct_X8_skips {l : Launch} {Z : ZZ} {μ : Mm} {a0 : Nat} {μ' : Mm} (k0 : (zk Z a0).1 = 6) (h : f_X8_skips (zk Z) μ a0 = some μ') : CtM l Z false yX8_skips cX8_skips 1 none 2 0 0 [.ref (za Z a0)] μ none Z μ' := ct_of rfl rfl (Nat.le_of_ble_eq_true rfl) (fun X C E => t_X8_skips μ a0 μ' k0 h C E)

def qX8_wordOf : List (Nat × Instr × Nat) := [(0, .lconst 0, 1), (1, .lstore_n 3, 1), (2, .iload_n 1, 1), (3, .istore 5, 2), (5, .iload 5, 2), (7, .iload_n 2, 1), (8, .if_icmp .ge 30, 3), (11, .ldc2_w 162, 3), (14, .lload_n 3, 1), (15, .lmul, 1), (16, .aload_n 0, 1), (17, .getfield 19, 3), (20, .iload 5, 2), (22, .iaload, 1), (23, .i2l, 1), (24, .ladd, 1), (25, .ldc2_w 164, 3), (28, .lsub, 1), (29, .lconst 1, 1), (30, .ladd, 1), (31, .lstore_n 3, 1), (32, .iinc 5 1, 3), (35, .goto (-30), 3), (38, .iload_n 2, 1), (39, .iload_n 1, 1), (40, .isub, 1), (41, .bipush 6, 2), (43, .if_icmp .le 7, 3), (46, .lconst 0, 1), (47, .goto 4, 3), (50, .lload_n 3, 1), (51, .lreturn, 1)]
theorem kX8_wordOf : ∀ q ∈ qX8_wordOf, decode cX8_wordOf q.1 = .ok q.2 := by decide +kernel
def f_X8_wordOf_l5 (K : Nat → Nat × Nat) (μ : Mm) (v0 : Nat) (v1 : Int32) (v2 : Int32) : Nat → Int64 → Int32 → Option (Int64)
  | 0, _, _ => none
  | n + 1, v3, v5 => if v2 ≤ v5 then (some v3) else (bd (rf K μ v0 5 8) fun b2 => gd (inb v5 (K b2).2) <| lt1 (α := Int64) ((((27 * v3) + (Int32.toInt64 (μ.1 b2 (ix v5)))) - 97) + 1) fun x4 => lt1 (α := Int32) (v5 + 1) fun x5 => f_X8_wordOf_l5 K μ v0 v1 v2 n x4 x5)
def f_X8_wordOf (K : Nat → Nat × Nat) (μ : Mm) (a0 : Nat) (a1 : Int32) (a2 : Int32) : Option (Int64) :=
  bd (f_X8_wordOf_l5 K μ a0 a1 a2 FU 0 a1) fun q6 => lt1 q6 fun x7 => if (a2 - a1) ≤ 6 then (some x7) else (some 0)
set_option maxRecDepth 100000 in
set_option maxHeartbeats 4000000 in
theorem gl_X8_wordOf_5 {l : Launch} {Z : ZZ} {X : XX} (v0 : Nat) (v1 : Int32) (v2 : Int32) (k0 : (zk Z v0).1 = 6) (μ : Mm) (C : Cx l Z false X cX8_wordOf RX8 6 (some .long)) (E : xR X = rmm 0 0 0) : ∀ (n : Nat) (v3 : Int64) (v5 : Int32) (y : Int64), f_X8_wordOf_l5 (zk Z) μ v0 v1 v2 n v3 v5 = some y → G Z X 6 0 0 38 [(1, .int v1), (2, .int v2), (3, .long y)] [] (μ) → G Z X 6 0 0 5 [(0, .ref (za Z v0)), (1, .int v1), (2, .int v2), (3, .long v3), (5, .int v5)] [] μ := by
  intro n
  induction n with
  | zero => intro v3 v5 y h he; unfold f_X8_wordOf_l5 at h; cases h
  | succ n ih =>
    intro v3 v5 y h he
    unfold f_X8_wordOf_l5 at h
    refine g_iload C (i := 5) 4 rfl (dk kX8_wordOf 4 rfl) ?_
    refine g_iload_n C (i := 2) 2 rfl rfl (dk kX8_wordOf 5 rfl) ?_
    refine g_icmp_ge C (tgt := 38) (dk kX8_wordOf 6 rfl) (by decide) (fun c1 => ?_) (fun c1 => ?_)
    · replace h := ite_t h c1
      cases h
      exact g_sub [1, 2, 3] rfl he
    · replace h := ite_f h c1
      refine g_ldc2 C (v := 27) (C.w wd_6_53) (dk kX8_wordOf 7 rfl) ?_
      refine g_lload_n C (i := 3) 3 rfl rfl (dk kX8_wordOf 8 rfl) ?_
      refine g_lmul C (dk kX8_wordOf 9 rfl) ?_
      refine g_aload_n C (i := 0) 0 rfl rfl (dk kX8_wordOf 10 rfl) ?_
      obtain ⟨b2, eb2, h⟩ := bd_inv h
      obtain ⟨rb2, kb2⟩ := rf_inv eb2
      refine gR_6_5 C k0 (C.w wd_5_8) rb2 (dk kX8_wordOf 11 rfl) ?_
      refine g_iload C (i := 5) 4 rfl (dk kX8_wordOf 12 rfl) ?_
      obtain ⟨c3, h⟩ := gd_inv h
      refine g_iald C kb2 c3 (dk kX8_wordOf 13 rfl) ?_
      refine g_i2l C (dk kX8_wordOf 14 rfl) ?_
      refine g_ladd C (dk kX8_wordOf 15 rfl) ?_
      refine g_ldc2 C (v := 97) (C.w wd_6_54) (dk kX8_wordOf 16 rfl) ?_
      refine g_lsub C (dk kX8_wordOf 17 rfl) ?_
      refine g_lconst C (v := 1) (by decide) (dk kX8_wordOf 18 rfl) ?_
      refine g_ladd C (dk kX8_wordOf 19 rfl) ?_
      obtain ⟨x4, ex4, h⟩ := lt_inv h
      refine g_nml ex4 ?_
      refine g_lstore_n C (i := 3) (lv' := [(3, .long x4), (0, .ref (za Z v0)), (1, .int v1), (2, .int v2), (5, .int v5)]) (dk kX8_wordOf 20 rfl) rfl (by decide) rfl ?_
      obtain ⟨x5, ex5, h⟩ := lt_inv h
      refine g_iinc C (i := 5) (v := x5) (lv' := [(5, .int x5), (3, .long x4), (0, .ref (za Z v0)), (1, .int v1), (2, .int v2)]) 4 (dk kX8_wordOf 21 rfl) rfl (by rw [ex5]; rfl) (by decide) rfl ?_
      refine g_goto C (tgt := 5) (dk kX8_wordOf 22 rfl) (by decide) ?_
      exact g_sub [2, 3, 4, 1, 0] rfl (ih x4 x5 y h he)
set_option maxRecDepth 100000 in
set_option maxHeartbeats 4000000 in
theorem t_X8_wordOf {l : Launch} {Z : ZZ} {X : XX} (μ : Mm) (a0 : Nat) (a1 : Int32) (a2 : Int32) (r : Int64) (k0 : (zk Z a0).1 = 6) (h : f_X8_wordOf (zk Z) μ a0 a1 a2 = some r) (C : Cx l Z false X cX8_wordOf RX8 6 (some .long)) (E : Ex Z X 0 0 0 (some (.long r)) Z μ) : G Z X 6 0 0 0 [(0, .ref (za Z a0)), (1, .int a1), (2, .int a2)] [] μ := by
  unfold f_X8_wordOf at h
  refine g_lconst C (v := 0) (by decide) (dk kX8_wordOf 0 rfl) ?_
  refine g_lstore_n C (i := 3) (lv' := [(3, .long 0), (0, .ref (za Z a0)), (1, .int a1), (2, .int a2)]) (dk kX8_wordOf 1 rfl) rfl (by decide) rfl ?_
  refine g_iload_n C (i := 1) 2 rfl rfl (dk kX8_wordOf 2 rfl) ?_
  refine g_istore C (i := 5) (lv' := [(5, .int a1), (3, .long 0), (0, .ref (za Z a0)), (1, .int a1), (2, .int a2)]) (dk kX8_wordOf 3 rfl) (by decide) rfl ?_
  obtain ⟨q6, eq6, h⟩ := bd_inv h
  refine g_sub [2, 3, 4, 1, 0] (lv' := [(0, .ref (za Z a0)), (1, .int a1), (2, .int a2), (3, .long 0), (5, .int a1)]) rfl ?_
  refine gl_X8_wordOf_5 a0 a1 a2 k0 μ C E.2 FU 0 a1 _ eq6 ?_
  obtain ⟨x7, ex7, h⟩ := lt_inv h
  rw [← ex7]
  refine g_iload_n C (i := 2) 1 rfl rfl (dk kX8_wordOf 23 rfl) ?_
  refine g_iload_n C (i := 1) 0 rfl rfl (dk kX8_wordOf 24 rfl) ?_
  refine g_isub C (dk kX8_wordOf 25 rfl) ?_
  refine g_bipush C (v := 6) (by decide) (dk kX8_wordOf 26 rfl) ?_
  refine g_icmp_le C (tgt := 50) (dk kX8_wordOf 27 rfl) (by decide) (fun c8 => ?_) (fun c8 => ?_)
  · replace h := ite_t h c8
    refine g_lload_n C (i := 3) 2 rfl rfl (dk kX8_wordOf 30 rfl) ?_
    have h9 := Option.some.inj h
    subst h9
    exact g_lret C E (Nat.le_refl 0) (Nat.le_refl 0) (dk kX8_wordOf 31 rfl)
  · replace h := ite_f h c8
    refine g_lconst C (v := 0) (by decide) (dk kX8_wordOf 28 rfl) ?_
    refine g_goto C (tgt := 51) (dk kX8_wordOf 29 rfl) (by decide) ?_
    have h9 := Option.some.inj h
    subst h9
    exact g_lret C E (Nat.le_refl 0) (Nat.le_refl 0) (dk kX8_wordOf 31 rfl)
theorem ct_X8_wordOf {l : Launch} {Z : ZZ} {μ : Mm} {a0 : Nat} {a1 : Int32} {a2 : Int32} {r : Int64} (k0 : (zk Z a0).1 = 6) (h : f_X8_wordOf (zk Z) μ a0 a1 a2 = some r) : CtM l Z false yX8_wordOf cX8_wordOf 6 (some .long) 0 0 0 [.ref (za Z a0), .int a1, .int a2] μ (some (.long r)) Z μ := ct_of rfl rfl (Nat.le_of_ble_eq_true rfl) (fun X C E => t_X8_wordOf μ a0 a1 a2 r k0 h C E)

def qX8_numbersOf : List (Nat × Instr × Nat) := [(0, .iload_n 0, 1), (1, .iconst 3, 1), (2, .if_icmp .ne 7, 3), (5, .iconst 0, 1), (6, .goto 45, 3), (9, .iload_n 0, 1), (10, .ifCond .eq 15, 3), (13, .iload_n 0, 1), (14, .bipush 7, 2), (16, .if_icmp .eq 9, 3), (19, .iload_n 0, 1), (20, .bipush 8, 2), (22, .if_icmp .ne 7, 3), (25, .iconst 1, 1), (26, .goto 25, 3), (29, .iload_n 0, 1), (30, .iconst 1, 1), (31, .if_icmp .eq 15, 3), (34, .iload_n 0, 1), (35, .bipush 6, 2), (37, .if_icmp .eq 9, 3), (40, .iload_n 0, 1), (41, .bipush 9, 2), (43, .if_icmp .ne 7, 3), (46, .iconst 2, 1), (47, .goto 4, 3), (50, .iconst 3, 1), (51, .ireturn, 1)]
theorem kX8_numbersOf : ∀ q ∈ qX8_numbersOf, decode cX8_numbersOf q.1 = .ok q.2 := by decide +kernel
def f_X8_numbersOf (a0 : Int32) : Option (Int32) :=
  lt1 (α := Int32) (if a0 = 3 then 0 else (if a0 = 0 then 1 else (if a0 = 7 then 1 else (if a0 = 8 then 1 else (if a0 = 1 then 2 else (if a0 = 6 then 2 else (if a0 = 9 then 2 else 3))))))) fun x1 => some x1
set_option maxRecDepth 100000 in
set_option maxHeartbeats 4000000 in
theorem t_X8_numbersOf {l : Launch} {Z : ZZ} {X : XX} (μ : Mm) (a0 : Int32) (r : Int32)  (h : f_X8_numbersOf a0 = some r) (C : Cx l Z false X cX8_numbersOf RX8 1 (some .int)) (E : Ex Z X 0 0 0 (some (.int r)) Z μ) : G Z X 1 0 0 0 [(0, .int a0)] [] μ := by
  unfold f_X8_numbersOf at h
  refine g_iload_n C (i := 0) 0 rfl rfl (dk kX8_numbersOf 0 rfl) ?_
  refine g_iconst C (v := 3) (by decide) (dk kX8_numbersOf 1 rfl) ?_
  obtain ⟨x1, ex1, h⟩ := lt_inv h
  have kj2 : G Z X 1 0 0 51 [(0, .int a0)] [.int x1] μ := by
    have h9 := Option.some.inj h
    subst h9
    exact g_iret C E rfl rfl (Nat.le_refl 0) (Nat.le_refl 0) (dk kX8_numbersOf 27 rfl)
  clear h
  refine g_icmp_ne C (tgt := 9) (dk kX8_numbersOf 2 rfl) (by decide) (fun c3 => ?_) (fun c3 => ?_)
  · refine g_iload_n C (i := 0) 0 rfl rfl (dk kX8_numbersOf 5 rfl) ?_
    refine g_if_eq C (tgt := 25) (dk kX8_numbersOf 6 rfl) (by decide) (fun c4 => ?_) (fun c4 => ?_)
    · refine g_iconst C (v := 1) (by decide) (dk kX8_numbersOf 13 rfl) ?_
      refine g_goto C (tgt := 51) (dk kX8_numbersOf 14 rfl) (by decide) ?_
      exact g_nmi (by rw [ex1, if_neg c3, if_pos c4]) kj2
    · refine g_iload_n C (i := 0) 0 rfl rfl (dk kX8_numbersOf 7 rfl) ?_
      refine g_bipush C (v := 7) (by decide) (dk kX8_numbersOf 8 rfl) ?_
      refine g_icmp_eq C (tgt := 25) (dk kX8_numbersOf 9 rfl) (by decide) (fun c5 => ?_) (fun c5 => ?_)
      · refine g_iconst C (v := 1) (by decide) (dk kX8_numbersOf 13 rfl) ?_
        refine g_goto C (tgt := 51) (dk kX8_numbersOf 14 rfl) (by decide) ?_
        exact g_nmi (by rw [ex1, if_neg c3, if_neg c4, if_pos c5]) kj2
      · refine g_iload_n C (i := 0) 0 rfl rfl (dk kX8_numbersOf 10 rfl) ?_
        refine g_bipush C (v := 8) (by decide) (dk kX8_numbersOf 11 rfl) ?_
        refine g_icmp_ne C (tgt := 29) (dk kX8_numbersOf 12 rfl) (by decide) (fun c6 => ?_) (fun c6 => ?_)
        · refine g_iload_n C (i := 0) 0 rfl rfl (dk kX8_numbersOf 15 rfl) ?_
          refine g_iconst C (v := 1) (by decide) (dk kX8_numbersOf 16 rfl) ?_
          refine g_icmp_eq C (tgt := 46) (dk kX8_numbersOf 17 rfl) (by decide) (fun c7 => ?_) (fun c7 => ?_)
          · refine g_iconst C (v := 2) (by decide) (dk kX8_numbersOf 24 rfl) ?_
            refine g_goto C (tgt := 51) (dk kX8_numbersOf 25 rfl) (by decide) ?_
            exact g_nmi (by rw [ex1, if_neg c3, if_neg c4, if_neg c5, if_neg c6, if_pos c7]) kj2
          · refine g_iload_n C (i := 0) 0 rfl rfl (dk kX8_numbersOf 18 rfl) ?_
            refine g_bipush C (v := 6) (by decide) (dk kX8_numbersOf 19 rfl) ?_
            refine g_icmp_eq C (tgt := 46) (dk kX8_numbersOf 20 rfl) (by decide) (fun c8 => ?_) (fun c8 => ?_)
            · refine g_iconst C (v := 2) (by decide) (dk kX8_numbersOf 24 rfl) ?_
              refine g_goto C (tgt := 51) (dk kX8_numbersOf 25 rfl) (by decide) ?_
              exact g_nmi (by rw [ex1, if_neg c3, if_neg c4, if_neg c5, if_neg c6, if_neg c7, if_pos c8]) kj2
            · refine g_iload_n C (i := 0) 0 rfl rfl (dk kX8_numbersOf 21 rfl) ?_
              refine g_bipush C (v := 9) (by decide) (dk kX8_numbersOf 22 rfl) ?_
              refine g_icmp_ne C (tgt := 50) (dk kX8_numbersOf 23 rfl) (by decide) (fun c9 => ?_) (fun c9 => ?_)
              · refine g_iconst C (v := 3) (by decide) (dk kX8_numbersOf 26 rfl) ?_
                exact g_nmi (by rw [ex1, if_neg c3, if_neg c4, if_neg c5, if_neg c6, if_neg c7, if_neg c8, if_neg c9]) kj2
              · refine g_iconst C (v := 2) (by decide) (dk kX8_numbersOf 24 rfl) ?_
                refine g_goto C (tgt := 51) (dk kX8_numbersOf 25 rfl) (by decide) ?_
                exact g_nmi (by rw [ex1, if_neg c3, if_neg c4, if_neg c5, if_neg c6, if_neg c7, if_neg c8, if_pos c9]) kj2
        · refine g_iconst C (v := 1) (by decide) (dk kX8_numbersOf 13 rfl) ?_
          refine g_goto C (tgt := 51) (dk kX8_numbersOf 14 rfl) (by decide) ?_
          exact g_nmi (by rw [ex1, if_neg c3, if_neg c4, if_neg c5, if_pos c6]) kj2
  · refine g_iconst C (v := 0) (by decide) (dk kX8_numbersOf 3 rfl) ?_
    refine g_goto C (tgt := 51) (dk kX8_numbersOf 4 rfl) (by decide) ?_
    exact g_nmi (by rw [ex1, if_pos c3]) kj2
theorem ct_X8_numbersOf {l : Launch} {Z : ZZ} {μ : Mm} {a0 : Int32} {r : Int32}  (h : f_X8_numbersOf a0 = some r) : CtM l Z false yX8_numbersOf cX8_numbersOf 1 (some .int) 0 0 0 [.int a0] μ (some (.int r)) Z μ := ct_of rfl rfl (Nat.le_of_ble_eq_true rfl) (fun X C E => t_X8_numbersOf μ a0 r  h C E)

def qX8_number : List (Nat × Instr × Nat) := [(0, .aload_n 0, 1), (1, .bipush 32, 2), (3, .bipush 32, 2), (5, .invokevirtual 158, 3), (8, .ifCond .ne 5, 3), (11, .iconst 0, 1), (12, .ireturn, 1), (13, .aload_n 0, 1), (14, .invokevirtual 170, 3), (17, .aload_n 0, 1), (18, .getfield 155, 3), (21, .istore_n 2, 1), (22, .aload_n 0, 1), (23, .getfield 22, 3), (26, .iload_n 1, 1), (27, .iconst 0, 1), (28, .iastore, 1), (29, .aload_n 0, 1), (30, .bipush 48, 2), (32, .bipush 57, 2), (34, .invokevirtual 158, 3), (37, .ifCond .eq 54, 3), (40, .aload_n 0, 1), (41, .getfield 155, 3), (44, .iload_n 2, 1), (45, .isub, 1), (46, .iconst 4, 1), (47, .if_icmp .ge 44, 3), (50, .aload_n 0, 1), (51, .getfield 22, 3), (54, .iload_n 1, 1), (55, .bipush 10, 2), (57, .aload_n 0, 1), (58, .getfield 22, 3), (61, .iload_n 1, 1), (62, .iaload, 1), (63, .imul, 1), (64, .aload_n 0, 1), (65, .getfield 19, 3), (68, .aload_n 0, 1), (69, .getfield 155, 3), (72, .iaload, 1), (73, .iadd, 1), (74, .bipush 48, 2), (76, .isub, 1), (77, .iastore, 1), (78, .aload_n 0, 1), (79, .dup, 1), (80, .getfield 155, 3), (83, .iconst 1, 1), (84, .iadd, 1), (85, .putfield 155, 3), (88, .goto (-59), 3), (91, .aload_n 0, 1), (92, .getfield 155, 3), (95, .iload_n 2, 1), (96, .if_icmp .le 18, 3), (99, .aload_n 0, 1), (100, .bipush 48, 2), (102, .bipush 57, 2), (104, .invokevirtual 158, 3), (107, .ifCond .ne 7, 3), (110, .iconst 1, 1), (111, .goto 4, 3), (114, .iconst 0, 1), (115, .ireturn, 1)]
theorem kX8_number : ∀ q ∈ qX8_number, decode cX8_number q.1 = .ok q.2 := by decide +kernel
def f_X8_number_l29 (K : Nat → Nat × Nat) (v0 : Nat) (v1 : Int32) (v2 : Int32) : Nat → Mm → Option (Mm)
  | 0, _ => none
  | n + 1, μ => bd (f_X8_isAt K μ v0 48 57) fun x11 => if x11 = 0 then (some μ) else (if 4 ≤ ((μ.1 v0 8) - v2) then (some μ) else (bd (rf K μ v0 10 8) fun b14 => bd (rf K μ v0 10 8) fun b15 => gd (inb v1 (K b15).2) <| bd (rf K μ v0 5 8) fun b17 => gd (inb (μ.1 v0 8) (K b17).2) <| gd (inb v1 (K b14).2) <| lt1 (sI μ b14 (ix v1) (((10 * (μ.1 b15 (ix v1))) + (μ.1 b17 (ix (μ.1 v0 8)))) - 48)) fun μ20 => lt1 (sI μ20 v0 8 ((μ20.1 v0 8) + 1)) fun μ21 => f_X8_number_l29 K v0 v1 v2 n μ21))
def f_X8_number (K : Nat → Nat × Nat) (μ : Mm) (a0 : Nat) (a1 : Int32) : Option (Int32 × Mm) :=
  bd (f_X8_isAt K μ a0 32 32) fun x2 => if x2 = 0 then (some (0, μ)) else (bd (f_X8_skips K μ a0) fun μ5 => lt1 (α := Int32) (μ5.1 a0 8) fun x6 => bd (rf K μ5 a0 10 8) fun b7 => gd (inb a1 (K b7).2) <| lt1 (sI μ5 b7 (ix a1) 0) fun μ9 => bd (f_X8_number_l29 K a0 a1 x6 FU μ9) fun q22 => lt1 q22 fun μ23 => if (μ23.1 a0 8) ≤ x6 then (some (0, μ23)) else (bd (f_X8_isAt K μ23 a0 48 57) fun x26 => lt1 (α := Int32) (if x26 = 0 then 1 else 0) fun x27 => gd (x27 = 0 ∨ x27 = 1) <| some (x27, μ23)))
set_option maxRecDepth 100000 in
set_option maxHeartbeats 4000000 in
theorem gl_X8_number_29 {l : Launch} {Z : ZZ} {X : XX} (v0 : Nat) (v1 : Int32) (v2 : Int32) (k0 : (zk Z v0).1 = 6) (C : Cx l Z false X cX8_number RX8 3 (some .boolean)) (E : xR X = rmm 3 0 0) : ∀ (n : Nat) (μ : Mm) (y : Mm), f_X8_number_l29 (zk Z) v0 v1 v2 n μ = some y → G Z X 3 0 0 91 [(0, .ref (za Z v0)), (2, .int v2)] [] y → G Z X 3 0 0 29 [(0, .ref (za Z v0)), (1, .int v1), (2, .int v2)] [] μ := by
  intro n
  induction n with
  | zero => intro μ y h he; unfold f_X8_number_l29 at h; cases h
  | succ n ih =>
    intro μ y h he
    unfold f_X8_number_l29 at h
    refine g_aload_n C (i := 0) 0 rfl rfl (dk kX8_number 17 rfl) ?_
    refine g_bipush C (v := 48) (by decide) (dk kX8_number 18 rfl) ?_
    refine g_bipush C (v := 57) (by decide) (dk kX8_number 19 rfl) ?_
    obtain ⟨x11, eq10, h⟩ := bd_inv h
    refine g_callV C E (rest := []) 2 (ct_X8_isAt k0 eq10) wd_6_41 mm_X8_isAt ⟨rfl, by decide, by decide, by decide⟩ rfl (by decide) k0 (by decide) rfl rfl (Nat.le_of_ble_eq_true rfl) (by decide) (dk kX8_number 20 rfl) ?_
    refine g_if_eq C (tgt := 91) (dk kX8_number 21 rfl) (by decide) (fun c12 => ?_) (fun c12 => ?_)
    · replace h := ite_t h c12
      cases h
      exact g_sub [0, 2] rfl he
    · replace h := ite_f h c12
      refine g_aload_n C (i := 0) 0 rfl rfl (dk kX8_number 22 rfl) ?_
      refine gI_6_8 C k0 (C.w wd_5_11) (dk kX8_number 23 rfl) ?_
      refine g_iload_n C (i := 2) 2 rfl rfl (dk kX8_number 24 rfl) ?_
      refine g_isub C (dk kX8_number 25 rfl) ?_
      refine g_iconst C (v := 4) (by decide) (dk kX8_number 26 rfl) ?_
      refine g_icmp_ge C (tgt := 91) (dk kX8_number 27 rfl) (by decide) (fun c13 => ?_) (fun c13 => ?_)
      · replace h := ite_t h c13
        cases h
        exact g_sub [0, 2] rfl he
      · replace h := ite_f h c13
        refine g_aload_n C (i := 0) 0 rfl rfl (dk kX8_number 28 rfl) ?_
        obtain ⟨b14, eb14, h⟩ := bd_inv h
        obtain ⟨rb14, kb14⟩ := rf_inv eb14
        refine gR_6_10 C k0 (C.w wd_5_13) rb14 (dk kX8_number 29 rfl) ?_
        refine g_iload_n C (i := 1) 1 rfl rfl (dk kX8_number 30 rfl) ?_
        refine g_bipush C (v := 10) (by decide) (dk kX8_number 31 rfl) ?_
        refine g_aload_n C (i := 0) 0 rfl rfl (dk kX8_number 32 rfl) ?_
        obtain ⟨b15, eb15, h⟩ := bd_inv h
        obtain ⟨rb15, kb15⟩ := rf_inv eb15
        refine gR_6_10 C k0 (C.w wd_5_13) rb15 (dk kX8_number 33 rfl) ?_
        refine g_iload_n C (i := 1) 1 rfl rfl (dk kX8_number 34 rfl) ?_
        obtain ⟨c16, h⟩ := gd_inv h
        refine g_iald C kb15 c16 (dk kX8_number 35 rfl) ?_
        refine g_imul C (dk kX8_number 36 rfl) ?_
        refine g_aload_n C (i := 0) 0 rfl rfl (dk kX8_number 37 rfl) ?_
        obtain ⟨b17, eb17, h⟩ := bd_inv h
        obtain ⟨rb17, kb17⟩ := rf_inv eb17
        refine gR_6_5 C k0 (C.w wd_5_8) rb17 (dk kX8_number 38 rfl) ?_
        refine g_aload_n C (i := 0) 0 rfl rfl (dk kX8_number 39 rfl) ?_
        refine gI_6_8 C k0 (C.w wd_5_11) (dk kX8_number 40 rfl) ?_
        obtain ⟨c18, h⟩ := gd_inv h
        refine g_iald C kb17 c18 (dk kX8_number 41 rfl) ?_
        refine g_iadd C (dk kX8_number 42 rfl) ?_
        refine g_bipush C (v := 48) (by decide) (dk kX8_number 43 rfl) ?_
        refine g_isub C (dk kX8_number 44 rfl) ?_
        obtain ⟨c19, h⟩ := gd_inv h
        obtain ⟨μ20, eμ20, h⟩ := lt_inv h
        refine g_iast C kb14 c19 eμ20 (dk kX8_number 45 rfl) ?_
        refine g_aload_n C (i := 0) 0 rfl rfl (dk kX8_number 46 rfl) ?_
        refine g_dup C rfl (dk kX8_number 47 rfl) ?_
        refine gI_6_8 C k0 (C.w wd_5_11) (dk kX8_number 48 rfl) ?_
        refine g_iconst C (v := 1) (by decide) (dk kX8_number 49 rfl) ?_
        refine g_iadd C (dk kX8_number 50 rfl) ?_
        obtain ⟨μ21, eμ21, h⟩ := lt_inv h
        refine pI_6_8 C k0 (C.w wd_5_11) eμ21 (dk kX8_number 51 rfl) ?_
        refine g_goto C (tgt := 29) (dk kX8_number 52 rfl) (by decide) ?_
        exact g_sub [0, 1, 2] rfl (ih μ21  y h he)
set_option maxRecDepth 100000 in
set_option maxHeartbeats 4000000 in
theorem t_X8_number {l : Launch} {Z : ZZ} {X : XX} (μ : Mm) (a0 : Nat) (a1 : Int32) (r : Int32) (μ' : Mm) (k0 : (zk Z a0).1 = 6) (h : f_X8_number (zk Z) μ a0 a1 = some (r, μ')) (C : Cx l Z false X cX8_number RX8 3 (some .boolean)) (E : Ex Z X 3 0 0 (some (.int r)) Z μ') : G Z X 3 0 0 0 [(0, .ref (za Z a0)), (1, .int a1)] [] μ := by
  unfold f_X8_number at h
  refine g_aload_n C (i := 0) 0 rfl rfl (dk kX8_number 0 rfl) ?_
  refine g_bipush C (v := 32) (by decide) (dk kX8_number 1 rfl) ?_
  refine g_bipush C (v := 32) (by decide) (dk kX8_number 2 rfl) ?_
  obtain ⟨x2, eq1, h⟩ := bd_inv h
  refine g_callV C E.2 (rest := []) 2 (ct_X8_isAt k0 eq1) wd_6_41 mm_X8_isAt ⟨rfl, by decide, by decide, by decide⟩ rfl (by decide) k0 (by decide) rfl rfl (Nat.le_of_ble_eq_true rfl) (by decide) (dk kX8_number 3 rfl) ?_
  refine g_if_ne C (tgt := 13) (dk kX8_number 4 rfl) (by decide) (fun c3 => ?_) (fun c3 => ?_)
  · replace h := ite_f h c3
    refine g_aload_n C (i := 0) 0 rfl rfl (dk kX8_number 7 rfl) ?_
    obtain ⟨μ5, eq4, h⟩ := bd_inv h
    refine g_callV C E.2 (rest := []) 0 (ct_X8_skips k0 eq4) wd_6_37 mm_X8_skips ⟨rfl, by decide, by decide, by decide⟩ rfl (by decide) k0 (by decide) rfl rfl (Nat.le_of_ble_eq_true rfl) (by decide) (dk kX8_number 8 rfl) ?_
    refine g_aload_n C (i := 0) 0 rfl rfl (dk kX8_number 9 rfl) ?_
    refine gI_6_8 C k0 (C.w wd_5_11) (dk kX8_number 10 rfl) ?_
    obtain ⟨x6, ex6, h⟩ := lt_inv h
    refine g_nmi ex6 ?_
    refine g_istore_n C (i := 2) (lv' := [(2, .int x6), (0, .ref (za Z a0)), (1, .int a1)]) (dk kX8_number 11 rfl) rfl (by decide) rfl ?_
    refine g_aload_n C (i := 0) 1 rfl rfl (dk kX8_number 12 rfl) ?_
    obtain ⟨b7, eb7, h⟩ := bd_inv h
    obtain ⟨rb7, kb7⟩ := rf_inv eb7
    refine gR_6_10 C k0 (C.w wd_5_13) rb7 (dk kX8_number 13 rfl) ?_
    refine g_iload_n C (i := 1) 2 rfl rfl (dk kX8_number 14 rfl) ?_
    refine g_iconst C (v := 0) (by decide) (dk kX8_number 15 rfl) ?_
    obtain ⟨c8, h⟩ := gd_inv h
    obtain ⟨μ9, eμ9, h⟩ := lt_inv h
    refine g_iast C kb7 c8 eμ9 (dk kX8_number 16 rfl) ?_
    obtain ⟨q22, eq22, h⟩ := bd_inv h
    refine g_sub [1, 2, 0] (lv' := [(0, .ref (za Z a0)), (1, .int a1), (2, .int x6)]) rfl ?_
    refine gl_X8_number_29 a0 a1 x6 k0 C E.2 FU μ9  _ eq22 ?_
    obtain ⟨μ23, eμ23, h⟩ := lt_inv h
    rw [← eμ23]
    refine g_aload_n C (i := 0) 0 rfl rfl (dk kX8_number 53 rfl) ?_
    refine gI_6_8 C k0 (C.w wd_5_11) (dk kX8_number 54 rfl) ?_
    refine g_iload_n C (i := 2) 1 rfl rfl (dk kX8_number 55 rfl) ?_
    refine g_icmp_le C (tgt := 114) (dk kX8_number 56 rfl) (by decide) (fun c24 => ?_) (fun c24 => ?_)
    · replace h := ite_t h c24
      refine g_iconst C (v := 0) (by decide) (dk kX8_number 64 rfl) ?_
      obtain ⟨h8, h9⟩ := Prod.mk.inj (Option.some.inj h)
      subst h8
      subst h9
      exact g_iret C E rfl rfl (Nat.le_refl 0) (Nat.le_refl 0) (dk kX8_number 65 rfl)
    · replace h := ite_f h c24
      refine g_aload_n C (i := 0) 0 rfl rfl (dk kX8_number 57 rfl) ?_
      refine g_bipush C (v := 48) (by decide) (dk kX8_number 58 rfl) ?_
      refine g_bipush C (v := 57) (by decide) (dk kX8_number 59 rfl) ?_
      obtain ⟨x26, eq25, h⟩ := bd_inv h
      refine g_callV C E.2 (rest := []) 2 (ct_X8_isAt k0 eq25) wd_6_41 mm_X8_isAt ⟨rfl, by decide, by decide, by decide⟩ rfl (by decide) k0 (by decide) rfl rfl (Nat.le_of_ble_eq_true rfl) (by decide) (dk kX8_number 60 rfl) ?_
      obtain ⟨x27, ex27, h⟩ := lt_inv h
      have kj28 : G Z X 3 0 0 115 [(0, .ref (za Z a0)), (2, .int x6)] [.int x27] μ23 := by
        obtain ⟨c29, h⟩ := gd_inv h
        obtain ⟨h8, h9⟩ := Prod.mk.inj (Option.some.inj h)
        subst h8
        subst h9
        exact g_iret C E rfl (br0 _ c29) (Nat.le_refl 0) (Nat.le_refl 0) (dk kX8_number 65 rfl)
      clear h
      refine g_if_ne C (tgt := 114) (dk kX8_number 61 rfl) (by decide) (fun c30 => ?_) (fun c30 => ?_)
      · refine g_iconst C (v := 0) (by decide) (dk kX8_number 64 rfl) ?_
        exact g_nmi (by rw [ex27, if_neg c30]) kj28
      · refine g_iconst C (v := 1) (by decide) (dk kX8_number 62 rfl) ?_
        refine g_goto C (tgt := 115) (dk kX8_number 63 rfl) (by decide) ?_
        exact g_nmi (by rw [ex27, if_pos c30]) kj28
  · replace h := ite_t h c3
    refine g_iconst C (v := 0) (by decide) (dk kX8_number 5 rfl) ?_
    obtain ⟨h8, h9⟩ := Prod.mk.inj (Option.some.inj h)
    subst h8
    subst h9
    exact g_iret C E rfl rfl (Nat.le_refl 0) (Nat.le_refl 0) (dk kX8_number 6 rfl)
theorem ct_X8_number {l : Launch} {Z : ZZ} {μ : Mm} {a0 : Nat} {a1 : Int32} {r : Int32} {μ' : Mm} (k0 : (zk Z a0).1 = 6) (h : f_X8_number (zk Z) μ a0 a1 = some (r, μ')) : CtM l Z false yX8_number cX8_number 3 (some .boolean) 3 0 0 [.ref (za Z a0), .int a1] μ (some (.int r)) Z μ' := ct_of rfl rfl (Nat.le_of_ble_eq_true rfl) (fun X C E => t_X8_number μ a0 a1 r μ' k0 h C E)

def qX8_reads : List (Nat × Instr × Nat) := [(0, .aload_n 0, 1), (1, .getfield 155, 3), (4, .istore_n 1, 1), (5, .aload_n 0, 1), (6, .bipush 97, 2), (8, .bipush 122, 2), (10, .invokevirtual 158, 3), (13, .ifCond .eq 16, 3), (16, .aload_n 0, 1), (17, .dup, 1), (18, .getfield 155, 3), (21, .iconst 1, 1), (22, .iadd, 1), (23, .putfield 155, 3), (26, .goto (-21), 3), (29, .aload_n 0, 1), (30, .aload_n 0, 1), (31, .iload_n 1, 1), (32, .aload_n 0, 1), (33, .getfield 155, 3), (36, .invokevirtual 173, 3), (39, .invokestatic 177, 3), (42, .putfield 181, 3), (45, .aload_n 0, 1), (46, .getfield 181, 3), (49, .iconst (-1), 1), (50, .if_icmp .ne 10, 3), (53, .aload_n 0, 1), (54, .iload_n 1, 1), (55, .putfield 155, 3), (58, .iconst 0, 1), (59, .ireturn, 1), (60, .iconst 0, 1), (61, .istore_n 2, 1), (62, .iload_n 2, 1), (63, .aload_n 0, 1), (64, .getfield 181, 3), (67, .invokestatic 184, 3), (70, .if_icmp .ge 19, 3), (73, .aload_n 0, 1), (74, .iload_n 2, 1), (75, .invokevirtual 187, 3), (78, .ifCond .ne 5, 3), (81, .iconst 0, 1), (82, .ireturn, 1), (83, .iinc 2 1, 3), (86, .goto (-24), 3), (89, .aload_n 0, 1), (90, .invokevirtual 170, 3), (93, .aload_n 0, 1), (94, .bipush 59, 2), (96, .bipush 59, 2), (98, .invokevirtual 158, 3), (101, .ifCond .ne 5, 3), (104, .iconst 0, 1), (105, .ireturn, 1), (106, .aload_n 0, 1), (107, .dup, 1), (108, .getfield 155, 3), (111, .iconst 1, 1), (112, .iadd, 1), (113, .putfield 155, 3), (116, .aload_n 0, 1), (117, .invokevirtual 170, 3), (120, .iconst 1, 1), (121, .ireturn, 1)]
theorem kX8_reads : ∀ q ∈ qX8_reads, decode cX8_reads q.1 = .ok q.2 := by decide +kernel
def f_X8_reads_l5 (K : Nat → Nat × Nat) (v0 : Nat) (v1 : Int32) : Nat → Mm → Option (Mm)
  | 0, _ => none
  | n + 1, μ => bd (f_X8_isAt K μ v0 97 122) fun x3 => if x3 = 0 then (some μ) else (lt1 (sI μ v0 8 ((μ.1 v0 8) + 1)) fun μ5 => f_X8_reads_l5 K v0 v1 n μ5)
def f_X8_reads_l62 (K : Nat → Nat × Nat) (v0 : Nat) : Nat → Mm → Int32 → Option ((Int32 × Mm) ⊕ (Mm))
  | 0, _, _ => none
  | n + 1, μ, v2 => bd (f_X8_numbersOf (μ.1 v0 9)) fun x15 => if x15 ≤ v2 then (some (.inr μ)) else (bd (f_X8_number K μ v0 v2) fun q17 => lt1 q17.1 fun x19 => lt1 q17.2 fun μ18 => if x19 = 0 then (some (.inl (0, μ18))) else (lt1 (α := Int32) (v2 + 1) fun x21 => f_X8_reads_l62 K v0 n μ18 x21))
def f_X8_reads (K : Nat → Nat × Nat) (μ : Mm) (a0 : Nat) : Option (Int32 × Mm) :=
  lt1 (α := Int32) (μ.1 a0 8) fun x1 => bd (f_X8_reads_l5 K a0 x1 FU μ) fun q6 => lt1 q6 fun μ7 => bd (f_X8_wordOf K μ7 a0 x1 (μ7.1 a0 8)) fun x9 => bd (f_X8_commandOf x9) fun x11 => lt1 (sI μ7 a0 9 x11) fun μ12 => if (μ12.1 a0 9) = (-1) then (lt1 (sI μ12 a0 8 x1) fun μ33 => some (0, μ33)) else (bd (f_X8_reads_l62 K a0 FU μ12 0) fun q22 => (match q22 with | .inl r => some r | .inr q23 => lt1 q23 fun μ24 => bd (f_X8_skips K μ24 a0) fun μ26 => bd (f_X8_isAt K μ26 a0 59 59) fun x28 => if x28 = 0 then (some (0, μ26)) else (lt1 (sI μ26 a0 8 ((μ26.1 a0 8) + 1)) fun μ30 => bd (f_X8_skips K μ30 a0) fun μ32 => some (1, μ32))))
set_option maxRecDepth 100000 in
set_option maxHeartbeats 4000000 in
theorem gl_X8_reads_5 {l : Launch} {Z : ZZ} {X : XX} (v0 : Nat) (v1 : Int32) (k0 : (zk Z v0).1 = 6) (C : Cx l Z false X cX8_reads RX8 3 (some .boolean)) (E : xR X = rmm 4 0 0) : ∀ (n : Nat) (μ : Mm) (y : Mm), f_X8_reads_l5 (zk Z) v0 v1 n μ = some y → G Z X 3 0 0 29 [(0, .ref (za Z v0)), (1, .int v1)] [] y → G Z X 3 0 0 5 [(0, .ref (za Z v0)), (1, .int v1)] [] μ := by
  intro n
  induction n with
  | zero => intro μ y h he; unfold f_X8_reads_l5 at h; cases h
  | succ n ih =>
    intro μ y h he
    unfold f_X8_reads_l5 at h
    refine g_aload_n C (i := 0) 0 rfl rfl (dk kX8_reads 3 rfl) ?_
    refine g_bipush C (v := 97) (by decide) (dk kX8_reads 4 rfl) ?_
    refine g_bipush C (v := 122) (by decide) (dk kX8_reads 5 rfl) ?_
    obtain ⟨x3, eq2, h⟩ := bd_inv h
    refine g_callV C E (rest := []) 2 (ct_X8_isAt k0 eq2) wd_6_41 mm_X8_isAt ⟨rfl, by decide, by decide, by decide⟩ rfl (by decide) k0 (by decide) rfl rfl (Nat.le_of_ble_eq_true rfl) (by decide) (dk kX8_reads 6 rfl) ?_
    refine g_if_eq C (tgt := 29) (dk kX8_reads 7 rfl) (by decide) (fun c4 => ?_) (fun c4 => ?_)
    · replace h := ite_t h c4
      cases h
      exact g_sub [0, 1] rfl he
    · replace h := ite_f h c4
      refine g_aload_n C (i := 0) 0 rfl rfl (dk kX8_reads 8 rfl) ?_
      refine g_dup C rfl (dk kX8_reads 9 rfl) ?_
      refine gI_6_8 C k0 (C.w wd_5_11) (dk kX8_reads 10 rfl) ?_
      refine g_iconst C (v := 1) (by decide) (dk kX8_reads 11 rfl) ?_
      refine g_iadd C (dk kX8_reads 12 rfl) ?_
      obtain ⟨μ5, eμ5, h⟩ := lt_inv h
      refine pI_6_8 C k0 (C.w wd_5_11) eμ5 (dk kX8_reads 13 rfl) ?_
      refine g_goto C (tgt := 5) (dk kX8_reads 14 rfl) (by decide) ?_
      exact g_sub [0, 1] rfl (ih μ5  y h he)
set_option maxRecDepth 100000 in
set_option maxHeartbeats 4000000 in
theorem gl_X8_reads_62 {l : Launch} {Z : ZZ} {X : XX} (v0 : Nat) (k0 : (zk Z v0).1 = 6) (C : Cx l Z false X cX8_reads RX8 3 (some .boolean)) (E : xR X = rmm 4 0 0) : ∀ (n : Nat) (μ : Mm) (v2 : Int32) (y : (Int32 × Mm) ⊕ (Mm)), f_X8_reads_l62 (zk Z) v0 n μ v2 = some y → (∀ r, y = .inl r → Ex Z X 4 0 0 (some (.int r.1)) Z r.2) → (∀ y9, y = .inr y9 → G Z X 3 0 0 89 [(0, .ref (za Z v0))] [] y9) → G Z X 3 0 0 62 [(0, .ref (za Z v0)), (2, .int v2)] [] μ := by
  intro n
  induction n with
  | zero => intro μ v2 y h hr he; unfold f_X8_reads_l62 at h; cases h
  | succ n ih =>
    intro μ v2 y h hr he
    unfold f_X8_reads_l62 at h
    refine g_iload_n C (i := 2) 1 rfl rfl (dk kX8_reads 34 rfl) ?_
    refine g_aload_n C (i := 0) 0 rfl rfl (dk kX8_reads 35 rfl) ?_
    refine gI_6_9 C k0 (C.w wd_5_12) (dk kX8_reads 36 rfl) ?_
    obtain ⟨x15, eq14, h⟩ := bd_inv h
    refine g_callS C E (rest := [.int v2]) 1 (ct_X8_numbersOf  eq14) wd_6_61 mm_X8_numbersOf ⟨by decide, by decide, by decide⟩ rfl (by decide) rfl (Nat.le_of_ble_eq_true rfl) (by decide) (dk kX8_reads 37 rfl) ?_
    refine g_icmp_ge C (tgt := 89) (dk kX8_reads 38 rfl) (by decide) (fun c16 => ?_) (fun c16 => ?_)
    · replace h := ite_t h c16
      cases h
      exact g_sub [0] rfl (he _ rfl)
    · replace h := ite_f h c16
      refine g_aload_n C (i := 0) 0 rfl rfl (dk kX8_reads 39 rfl) ?_
      refine g_iload_n C (i := 2) 1 rfl rfl (dk kX8_reads 40 rfl) ?_
      obtain ⟨q17, eq17, h⟩ := bd_inv h
      obtain ⟨x19, ex19, h⟩ := lt_inv h
      obtain ⟨μ18, eμ18, h⟩ := lt_inv h
      rw [show q17 = (x19, μ18) from by rw [ex19, eμ18]] at eq17
      refine g_callV C E (rest := []) 1 (ct_X8_number k0 eq17) wd_6_64 mm_X8_number ⟨rfl, by decide, by decide, by decide⟩ rfl (by decide) k0 (by decide) rfl rfl (Nat.le_of_ble_eq_true rfl) (by decide) (dk kX8_reads 41 rfl) ?_
      refine g_if_ne C (tgt := 83) (dk kX8_reads 42 rfl) (by decide) (fun c20 => ?_) (fun c20 => ?_)
      · replace h := ite_f h c20
        obtain ⟨x21, ex21, h⟩ := lt_inv h
        refine g_iinc C (i := 2) (v := x21) (lv' := [(2, .int x21), (0, .ref (za Z v0))]) 1 (dk kX8_reads 45 rfl) rfl (by rw [ex21]; rfl) (by decide) rfl ?_
        refine g_goto C (tgt := 62) (dk kX8_reads 46 rfl) (by decide) ?_
        exact g_sub [1, 0] rfl (ih μ18 x21 y h hr he)
      · replace h := ite_t h c20
        refine g_iconst C (v := 0) (by decide) (dk kX8_reads 43 rfl) ?_
        cases h
        have E := hr _ rfl
        exact g_iret C E rfl rfl (Nat.le_refl 0) (Nat.le_refl 0) (dk kX8_reads 44 rfl)
set_option maxRecDepth 100000 in
set_option maxHeartbeats 4000000 in
theorem t_X8_reads {l : Launch} {Z : ZZ} {X : XX} (μ : Mm) (a0 : Nat) (r : Int32) (μ' : Mm) (k0 : (zk Z a0).1 = 6) (h : f_X8_reads (zk Z) μ a0 = some (r, μ')) (C : Cx l Z false X cX8_reads RX8 3 (some .boolean)) (E : Ex Z X 4 0 0 (some (.int r)) Z μ') : G Z X 3 0 0 0 [(0, .ref (za Z a0))] [] μ := by
  unfold f_X8_reads at h
  refine g_aload_n C (i := 0) 0 rfl rfl (dk kX8_reads 0 rfl) ?_
  refine gI_6_8 C k0 (C.w wd_5_11) (dk kX8_reads 1 rfl) ?_
  obtain ⟨x1, ex1, h⟩ := lt_inv h
  refine g_nmi ex1 ?_
  refine g_istore_n C (i := 1) (lv' := [(1, .int x1), (0, .ref (za Z a0))]) (dk kX8_reads 2 rfl) rfl (by decide) rfl ?_
  obtain ⟨q6, eq6, h⟩ := bd_inv h
  refine g_sub [1, 0] (lv' := [(0, .ref (za Z a0)), (1, .int x1)]) rfl ?_
  refine gl_X8_reads_5 a0 x1 k0 C E.2 FU μ  _ eq6 ?_
  obtain ⟨μ7, eμ7, h⟩ := lt_inv h
  rw [← eμ7]
  refine g_aload_n C (i := 0) 0 rfl rfl (dk kX8_reads 15 rfl) ?_
  refine g_aload_n C (i := 0) 0 rfl rfl (dk kX8_reads 16 rfl) ?_
  refine g_iload_n C (i := 1) 1 rfl rfl (dk kX8_reads 17 rfl) ?_
  refine g_aload_n C (i := 0) 0 rfl rfl (dk kX8_reads 18 rfl) ?_
  refine gI_6_8 C k0 (C.w wd_5_11) (dk kX8_reads 19 rfl) ?_
  obtain ⟨x9, eq8, h⟩ := bd_inv h
  refine g_callV C E.2 (rest := [.ref (za Z a0)]) 2 (ct_X8_wordOf k0 eq8) wd_6_49 mm_X8_wordOf ⟨rfl, by decide, by decide, by decide⟩ rfl (by decide) k0 (by decide) rfl rfl (Nat.le_of_ble_eq_true rfl) (by decide) (dk kX8_reads 20 rfl) ?_
  obtain ⟨x11, eq10, h⟩ := bd_inv h
  refine g_callS C E.2 (rest := [.ref (za Z a0)]) 1 (ct_X8_commandOf  eq10) wd_6_55 mm_X8_commandOf ⟨by decide, by decide, by decide⟩ rfl (by decide) rfl (Nat.le_of_ble_eq_true rfl) (by decide) (dk kX8_reads 21 rfl) ?_
  obtain ⟨μ12, eμ12, h⟩ := lt_inv h
  refine pI_6_9 C k0 (C.w wd_5_12) eμ12 (dk kX8_reads 22 rfl) ?_
  refine g_aload_n C (i := 0) 0 rfl rfl (dk kX8_reads 23 rfl) ?_
  refine gI_6_9 C k0 (C.w wd_5_12) (dk kX8_reads 24 rfl) ?_
  refine g_iconst C (v := (-1)) (by decide) (dk kX8_reads 25 rfl) ?_
  refine g_icmp_ne C (tgt := 60) (dk kX8_reads 26 rfl) (by decide) (fun c13 => ?_) (fun c13 => ?_)
  · replace h := ite_f h c13
    refine g_iconst C (v := 0) (by decide) (dk kX8_reads 32 rfl) ?_
    refine g_istore_n C (i := 2) (lv' := [(2, .int 0), (0, .ref (za Z a0)), (1, .int x1)]) (dk kX8_reads 33 rfl) rfl (by decide) rfl ?_
    obtain ⟨q22, eq22, h⟩ := bd_inv h
    refine g_sub [1, 0] (lv' := [(0, .ref (za Z a0)), (2, .int 0)]) rfl ?_
    cases q22 with
    | inl r =>
      cases h
      exact gl_X8_reads_62 a0 k0 C E.2 FU μ12 0 _ eq22 (fun r hr9 => by cases hr9; exact E) (fun y hy9 => by cases hy9)
    | inr q23 =>
      refine gl_X8_reads_62 a0 k0 C E.2 FU μ12 0 _ eq22 (fun r hr9 => by cases hr9) (fun y hy9 => ?_)
      cases hy9
      obtain ⟨μ24, eμ24, h⟩ := lt_inv h
      rw [← eμ24]
      refine g_aload_n C (i := 0) 0 rfl rfl (dk kX8_reads 47 rfl) ?_
      obtain ⟨μ26, eq25, h⟩ := bd_inv h
      refine g_callV C E.2 (rest := []) 0 (ct_X8_skips k0 eq25) wd_6_37 mm_X8_skips ⟨rfl, by decide, by decide, by decide⟩ rfl (by decide) k0 (by decide) rfl rfl (Nat.le_of_ble_eq_true rfl) (by decide) (dk kX8_reads 48 rfl) ?_
      refine g_aload_n C (i := 0) 0 rfl rfl (dk kX8_reads 49 rfl) ?_
      refine g_bipush C (v := 59) (by decide) (dk kX8_reads 50 rfl) ?_
      refine g_bipush C (v := 59) (by decide) (dk kX8_reads 51 rfl) ?_
      obtain ⟨x28, eq27, h⟩ := bd_inv h
      refine g_callV C E.2 (rest := []) 2 (ct_X8_isAt k0 eq27) wd_6_41 mm_X8_isAt ⟨rfl, by decide, by decide, by decide⟩ rfl (by decide) k0 (by decide) rfl rfl (Nat.le_of_ble_eq_true rfl) (by decide) (dk kX8_reads 52 rfl) ?_
      refine g_if_ne C (tgt := 106) (dk kX8_reads 53 rfl) (by decide) (fun c29 => ?_) (fun c29 => ?_)
      · replace h := ite_f h c29
        refine g_aload_n C (i := 0) 0 rfl rfl (dk kX8_reads 56 rfl) ?_
        refine g_dup C rfl (dk kX8_reads 57 rfl) ?_
        refine gI_6_8 C k0 (C.w wd_5_11) (dk kX8_reads 58 rfl) ?_
        refine g_iconst C (v := 1) (by decide) (dk kX8_reads 59 rfl) ?_
        refine g_iadd C (dk kX8_reads 60 rfl) ?_
        obtain ⟨μ30, eμ30, h⟩ := lt_inv h
        refine pI_6_8 C k0 (C.w wd_5_11) eμ30 (dk kX8_reads 61 rfl) ?_
        refine g_aload_n C (i := 0) 0 rfl rfl (dk kX8_reads 62 rfl) ?_
        obtain ⟨μ32, eq31, h⟩ := bd_inv h
        refine g_callV C E.2 (rest := []) 0 (ct_X8_skips k0 eq31) wd_6_37 mm_X8_skips ⟨rfl, by decide, by decide, by decide⟩ rfl (by decide) k0 (by decide) rfl rfl (Nat.le_of_ble_eq_true rfl) (by decide) (dk kX8_reads 63 rfl) ?_
        refine g_iconst C (v := 1) (by decide) (dk kX8_reads 64 rfl) ?_
        obtain ⟨h8, h9⟩ := Prod.mk.inj (Option.some.inj h)
        subst h8
        subst h9
        exact g_iret C E rfl rfl (Nat.le_refl 0) (Nat.le_refl 0) (dk kX8_reads 65 rfl)
      · replace h := ite_t h c29
        refine g_iconst C (v := 0) (by decide) (dk kX8_reads 54 rfl) ?_
        obtain ⟨h8, h9⟩ := Prod.mk.inj (Option.some.inj h)
        subst h8
        subst h9
        exact g_iret C E rfl rfl (Nat.le_refl 0) (Nat.le_refl 0) (dk kX8_reads 55 rfl)
  · replace h := ite_t h c13
    refine g_aload_n C (i := 0) 0 rfl rfl (dk kX8_reads 27 rfl) ?_
    refine g_iload_n C (i := 1) 1 rfl rfl (dk kX8_reads 28 rfl) ?_
    obtain ⟨μ33, eμ33, h⟩ := lt_inv h
    refine pI_6_8 C k0 (C.w wd_5_11) eμ33 (dk kX8_reads 29 rfl) ?_
    refine g_iconst C (v := 0) (by decide) (dk kX8_reads 30 rfl) ?_
    obtain ⟨h8, h9⟩ := Prod.mk.inj (Option.some.inj h)
    subst h8
    subst h9
    exact g_iret C E rfl rfl (Nat.le_refl 0) (Nat.le_refl 0) (dk kX8_reads 31 rfl)
theorem ct_X8_reads {l : Launch} {Z : ZZ} {μ : Mm} {a0 : Nat} {r : Int32} {μ' : Mm} (k0 : (zk Z a0).1 = 6) (h : f_X8_reads (zk Z) μ a0 = some (r, μ')) : CtM l Z false yX8_reads cX8_reads 3 (some .boolean) 4 0 0 [.ref (za Z a0)] μ (some (.int r)) Z μ' := ct_of rfl rfl (Nat.le_of_ble_eq_true rfl) (fun X C E => t_X8_reads μ a0 r μ' k0 h C E)

def qX8_fault : List (Nat × Instr × Nat) := [(0, .aload_n 0, 1), (1, .iconst 0, 1), (2, .putfield 155, 3), (5, .aload_n 0, 1), (6, .invokevirtual 170, 3), (9, .iconst 1, 1), (10, .istore_n 1, 1), (11, .iload_n 1, 1), (12, .ifCond .eq 22, 3), (15, .aload_n 0, 1), (16, .getfield 155, 3), (19, .aload_n 0, 1), (20, .getfield 146, 3), (23, .if_icmp .ge 11, 3), (26, .aload_n 0, 1), (27, .invokevirtual 190, 3), (30, .istore_n 1, 1), (31, .goto (-20), 3), (34, .iload_n 1, 1), (35, .ifCond .eq 7, 3), (38, .iconst (-1), 1), (39, .goto 7, 3), (42, .aload_n 0, 1), (43, .getfield 155, 3), (46, .ireturn, 1)]
theorem kX8_fault : ∀ q ∈ qX8_fault, decode cX8_fault q.1 = .ok q.2 := by decide +kernel
def f_X8_fault_l11 (K : Nat → Nat × Nat) (v0 : Nat) : Nat → Mm → Int32 → Option (Int32 × Mm)
  | 0, _, _ => none
  | n + 1, μ, v1 => if v1 = 0 then (some (v1, μ)) else (if (μ.1 v0 6) ≤ (μ.1 v0 8) then (some (v1, μ)) else (bd (f_X8_reads K μ v0) fun q6 => lt1 q6.1 fun x8 => lt1 q6.2 fun μ7 => f_X8_fault_l11 K v0 n μ7 x8))
def f_X8_fault (K : Nat → Nat × Nat) (μ : Mm) (a0 : Nat) : Option (Int32 × Mm) :=
  lt1 (sI μ a0 8 0) fun μ1 => bd (f_X8_skips K μ1 a0) fun μ3 => bd (f_X8_fault_l11 K a0 FU μ3 1) fun q9 => lt1 q9.1 fun x10 => lt1 q9.2 fun μ11 => if x10 = 0 then (some ((μ11.1 a0 8), μ11)) else (some ((-1), μ11))
set_option maxRecDepth 100000 in
set_option maxHeartbeats 4000000 in
theorem gl_X8_fault_11 {l : Launch} {Z : ZZ} {X : XX} (v0 : Nat) (k0 : (zk Z v0).1 = 6) (C : Cx l Z false X cX8_fault RX8 2 (some .int)) (E : xR X = rmm 5 0 0) : ∀ (n : Nat) (μ : Mm) (v1 : Int32) (y : Int32 × Mm), f_X8_fault_l11 (zk Z) v0 n μ v1 = some y → G Z X 2 0 0 34 [(0, .ref (za Z v0)), (1, .int y.1)] [] y.2 → G Z X 2 0 0 11 [(0, .ref (za Z v0)), (1, .int v1)] [] μ := by
  intro n
  induction n with
  | zero => intro μ v1 y h he; unfold f_X8_fault_l11 at h; cases h
  | succ n ih =>
    intro μ v1 y h he
    unfold f_X8_fault_l11 at h
    refine g_iload_n C (i := 1) 1 rfl rfl (dk kX8_fault 7 rfl) ?_
    refine g_if_eq C (tgt := 34) (dk kX8_fault 8 rfl) (by decide) (fun c4 => ?_) (fun c4 => ?_)
    · replace h := ite_t h c4
      cases h
      exact g_sub [0, 1] rfl he
    · replace h := ite_f h c4
      refine g_aload_n C (i := 0) 0 rfl rfl (dk kX8_fault 9 rfl) ?_
      refine gI_6_8 C k0 (C.w wd_5_11) (dk kX8_fault 10 rfl) ?_
      refine g_aload_n C (i := 0) 0 rfl rfl (dk kX8_fault 11 rfl) ?_
      refine gI_6_6 C k0 (C.w wd_5_9) (dk kX8_fault 12 rfl) ?_
      refine g_icmp_ge C (tgt := 34) (dk kX8_fault 13 rfl) (by decide) (fun c5 => ?_) (fun c5 => ?_)
      · replace h := ite_t h c5
        cases h
        exact g_sub [0, 1] rfl he
      · replace h := ite_f h c5
        refine g_aload_n C (i := 0) 0 rfl rfl (dk kX8_fault 14 rfl) ?_
        obtain ⟨q6, eq6, h⟩ := bd_inv h
        obtain ⟨x8, ex8, h⟩ := lt_inv h
        obtain ⟨μ7, eμ7, h⟩ := lt_inv h
        rw [show q6 = (x8, μ7) from by rw [ex8, eμ7]] at eq6
        refine g_callV C E (rest := []) 0 (ct_X8_reads k0 eq6) wd_6_45 mm_X8_reads ⟨rfl, by decide, by decide, by decide⟩ rfl (by decide) k0 (by decide) rfl rfl (Nat.le_of_ble_eq_true rfl) (by decide) (dk kX8_fault 15 rfl) ?_
        refine g_istore_n C (i := 1) (lv' := [(1, .int x8), (0, .ref (za Z v0))]) (dk kX8_fault 16 rfl) rfl (by decide) rfl ?_
        refine g_goto C (tgt := 11) (dk kX8_fault 17 rfl) (by decide) ?_
        exact g_sub [1, 0] rfl (ih μ7 x8 y h he)
set_option maxRecDepth 100000 in
set_option maxHeartbeats 4000000 in
theorem t_X8_fault {l : Launch} {Z : ZZ} {X : XX} (μ : Mm) (a0 : Nat) (r : Int32) (μ' : Mm) (k0 : (zk Z a0).1 = 6) (h : f_X8_fault (zk Z) μ a0 = some (r, μ')) (C : Cx l Z false X cX8_fault RX8 2 (some .int)) (E : Ex Z X 5 0 0 (some (.int r)) Z μ') : G Z X 2 0 0 0 [(0, .ref (za Z a0))] [] μ := by
  unfold f_X8_fault at h
  refine g_aload_n C (i := 0) 0 rfl rfl (dk kX8_fault 0 rfl) ?_
  refine g_iconst C (v := 0) (by decide) (dk kX8_fault 1 rfl) ?_
  obtain ⟨μ1, eμ1, h⟩ := lt_inv h
  refine pI_6_8 C k0 (C.w wd_5_11) eμ1 (dk kX8_fault 2 rfl) ?_
  refine g_aload_n C (i := 0) 0 rfl rfl (dk kX8_fault 3 rfl) ?_
  obtain ⟨μ3, eq2, h⟩ := bd_inv h
  refine g_callV C E.2 (rest := []) 0 (ct_X8_skips k0 eq2) wd_6_37 mm_X8_skips ⟨rfl, by decide, by decide, by decide⟩ rfl (by decide) k0 (by decide) rfl rfl (Nat.le_of_ble_eq_true rfl) (by decide) (dk kX8_fault 4 rfl) ?_
  refine g_iconst C (v := 1) (by decide) (dk kX8_fault 5 rfl) ?_
  refine g_istore_n C (i := 1) (lv' := [(1, .int 1), (0, .ref (za Z a0))]) (dk kX8_fault 6 rfl) rfl (by decide) rfl ?_
  obtain ⟨q9, eq9, h⟩ := bd_inv h
  refine g_sub [1, 0] (lv' := [(0, .ref (za Z a0)), (1, .int 1)]) rfl ?_
  refine gl_X8_fault_11 a0 k0 C E.2 FU μ3 1 _ eq9 ?_
  obtain ⟨x10, ex10, h⟩ := lt_inv h
  obtain ⟨μ11, eμ11, h⟩ := lt_inv h
  rw [← ex10, ← eμ11]
  refine g_iload_n C (i := 1) 1 rfl rfl (dk kX8_fault 18 rfl) ?_
  refine g_if_eq C (tgt := 42) (dk kX8_fault 19 rfl) (by decide) (fun c12 => ?_) (fun c12 => ?_)
  · replace h := ite_t h c12
    refine g_aload_n C (i := 0) 0 rfl rfl (dk kX8_fault 22 rfl) ?_
    refine gI_6_8 C k0 (C.w wd_5_11) (dk kX8_fault 23 rfl) ?_
    obtain ⟨h8, h9⟩ := Prod.mk.inj (Option.some.inj h)
    subst h8
    subst h9
    exact g_iret C E rfl rfl (Nat.le_refl 0) (Nat.le_refl 0) (dk kX8_fault 24 rfl)
  · replace h := ite_f h c12
    refine g_iconst C (v := (-1)) (by decide) (dk kX8_fault 20 rfl) ?_
    refine g_goto C (tgt := 46) (dk kX8_fault 21 rfl) (by decide) ?_
    obtain ⟨h8, h9⟩ := Prod.mk.inj (Option.some.inj h)
    subst h8
    subst h9
    exact g_iret C E rfl rfl (Nat.le_refl 0) (Nat.le_refl 0) (dk kX8_fault 24 rfl)
theorem ct_X8_fault {l : Launch} {Z : ZZ} {μ : Mm} {a0 : Nat} {r : Int32} {μ' : Mm} (k0 : (zk Z a0).1 = 6) (h : f_X8_fault (zk Z) μ a0 = some (r, μ')) : CtM l Z false yX8_fault cX8_fault 2 (some .int) 5 0 0 [.ref (za Z a0)] μ (some (.int r)) Z μ' := ct_of rfl rfl (Nat.le_of_ble_eq_true rfl) (fun X C E => t_X8_fault μ a0 r μ' k0 h C E)

def qX8_label : List (Nat × Instr × Nat) := [(0, .aload_n 0, 1), (1, .aload_n 0, 1), (2, .iload_n 1, 1), (3, .invokevirtual 65, 3), (6, .ifCond .ne 7, 3), (9, .iconst 1, 1), (10, .goto 17, 3), (13, .iload_n 2, 1), (14, .iconst 0, 1), (15, .iconst 5, 1), (16, .invokestatic 36, 3), (19, .ifCond .eq 7, 3), (22, .iconst 0, 1), (23, .goto 4, 3), (26, .iconst 2, 1), (27, .invokevirtual 44, 3), (30, .ifCond .eq 7, 3), (33, .iconst 0, 1), (34, .goto 9, 3), (37, .aload_n 0, 1), (38, .iload_n 1, 1), (39, .iload_n 2, 1), (40, .invokevirtual 140, 3), (43, .ireturn, 1)]
theorem kX8_label : ∀ q ∈ qX8_label, decode cX8_label q.1 = .ok q.2 := by decide +kernel
def f_X8_label (K : Nat → Nat × Nat) (μ : Mm) (a0 : Nat) (a1 : Int32) (a2 : Int32) : Option (Int32 × Mm) :=
  bd (f_X8_isLabel K μ a0 a1) fun x2 => if x2 = 0 then (bd (f_X8_throwsAt K μ a0 1) fun q15 => lt1 q15.1 fun x17 => lt1 q15.2 fun μ16 => if x17 = 0 then (bd (f_X8_ofLabel K μ16 a0 a1 a2) fun x20 => some (x20, μ16)) else (some (0, μ16))) else (bd (f_X8_in a2 0 5) fun x5 => lt1 (α := Int32) (if x5 = 0 then 2 else 0) fun x6 => bd (f_X8_throwsAt K μ a0 x6) fun q8 => lt1 q8.1 fun x10 => lt1 q8.2 fun μ9 => if x10 = 0 then (bd (f_X8_ofLabel K μ9 a0 a1 a2) fun x13 => some (x13, μ9)) else (some (0, μ9)))
set_option maxRecDepth 100000 in
set_option maxHeartbeats 4000000 in
theorem t_X8_label {l : Launch} {Z : ZZ} {X : XX} (μ : Mm) (a0 : Nat) (a1 : Int32) (a2 : Int32) (r : Int32) (μ' : Mm) (k0 : (zk Z a0).1 = 6) (h : f_X8_label (zk Z) μ a0 a1 a2 = some (r, μ')) (C : Cx l Z false X cX8_label RX8 3 (some .int)) (E : Ex Z X 3 0 0 (some (.int r)) Z μ') : G Z X 3 0 0 0 [(0, .ref (za Z a0)), (1, .int a1), (2, .int a2)] [] μ := by
  unfold f_X8_label at h
  refine g_aload_n C (i := 0) 0 rfl rfl (dk kX8_label 0 rfl) ?_
  refine g_aload_n C (i := 0) 0 rfl rfl (dk kX8_label 1 rfl) ?_
  refine g_iload_n C (i := 1) 1 rfl rfl (dk kX8_label 2 rfl) ?_
  obtain ⟨x2, eq1, h⟩ := bd_inv h
  refine g_callV C E.2 (rest := [.ref (za Z a0)]) 1 (ct_X8_isLabel k0 eq1) wd_5_85 mm_X8_isLabel ⟨rfl, by decide, by decide, by decide⟩ rfl (by decide) k0 (by decide) rfl rfl (Nat.le_of_ble_eq_true rfl) (by decide) (dk kX8_label 3 rfl) ?_
  refine g_if_ne C (tgt := 13) (dk kX8_label 4 rfl) (by decide) (fun c3 => ?_) (fun c3 => ?_)
  · replace h := ite_f h c3
    refine g_iload_n C (i := 2) 2 rfl rfl (dk kX8_label 7 rfl) ?_
    refine g_iconst C (v := 0) (by decide) (dk kX8_label 8 rfl) ?_
    refine g_iconst C (v := 5) (by decide) (dk kX8_label 9 rfl) ?_
    obtain ⟨x5, eq4, h⟩ := bd_inv h
    refine g_callS C E.2 (rest := [.ref (za Z a0)]) 3 (ct_X8_in  eq4) wd_5_45 mm_X8_in ⟨by decide, by decide, by decide⟩ rfl (by decide) rfl (Nat.le_of_ble_eq_true rfl) (by decide) (dk kX8_label 10 rfl) ?_
    obtain ⟨x6, ex6, h⟩ := lt_inv h
    have kj7 : G Z X 3 0 0 27 [(0, .ref (za Z a0)), (1, .int a1), (2, .int a2)] [.int x6, .ref (za Z a0)] μ := by
      obtain ⟨q8, eq8, h⟩ := bd_inv h
      obtain ⟨x10, ex10, h⟩ := lt_inv h
      obtain ⟨μ9, eμ9, h⟩ := lt_inv h
      rw [show q8 = (x10, μ9) from by rw [ex10, eμ9]] at eq8
      refine g_callV C E.2 (rest := []) 1 (ct_X8_throwsAt k0 eq8) wd_5_48 mm_X8_throwsAt ⟨rfl, by decide, by decide, by decide⟩ rfl (by decide) k0 (by decide) rfl rfl (Nat.le_of_ble_eq_true rfl) (by decide) (dk kX8_label 15 rfl) ?_
      refine g_if_eq C (tgt := 37) (dk kX8_label 16 rfl) (by decide) (fun c11 => ?_) (fun c11 => ?_)
      · replace h := ite_t h c11
        refine g_aload_n C (i := 0) 0 rfl rfl (dk kX8_label 19 rfl) ?_
        refine g_iload_n C (i := 1) 1 rfl rfl (dk kX8_label 20 rfl) ?_
        refine g_iload_n C (i := 2) 2 rfl rfl (dk kX8_label 21 rfl) ?_
        obtain ⟨x13, eq12, h⟩ := bd_inv h
        refine g_callV C E.2 (rest := []) 2 (ct_X8_ofLabel k0 eq12) wd_5_205 mm_X8_ofLabel ⟨rfl, by decide, by decide, by decide⟩ rfl (by decide) k0 (by decide) rfl rfl (Nat.le_of_ble_eq_true rfl) (by decide) (dk kX8_label 22 rfl) ?_
        obtain ⟨h8, h9⟩ := Prod.mk.inj (Option.some.inj h)
        subst h8
        subst h9
        exact g_iret C E rfl rfl (Nat.le_refl 0) (Nat.le_refl 0) (dk kX8_label 23 rfl)
      · replace h := ite_f h c11
        refine g_iconst C (v := 0) (by decide) (dk kX8_label 17 rfl) ?_
        refine g_goto C (tgt := 43) (dk kX8_label 18 rfl) (by decide) ?_
        obtain ⟨h8, h9⟩ := Prod.mk.inj (Option.some.inj h)
        subst h8
        subst h9
        exact g_iret C E rfl rfl (Nat.le_refl 0) (Nat.le_refl 0) (dk kX8_label 23 rfl)
    clear h
    refine g_if_eq C (tgt := 26) (dk kX8_label 11 rfl) (by decide) (fun c14 => ?_) (fun c14 => ?_)
    · refine g_iconst C (v := 2) (by decide) (dk kX8_label 14 rfl) ?_
      exact g_nmi (by rw [ex6, if_pos c14]) kj7
    · refine g_iconst C (v := 0) (by decide) (dk kX8_label 12 rfl) ?_
      refine g_goto C (tgt := 27) (dk kX8_label 13 rfl) (by decide) ?_
      exact g_nmi (by rw [ex6, if_neg c14]) kj7
  · replace h := ite_t h c3
    refine g_iconst C (v := 1) (by decide) (dk kX8_label 5 rfl) ?_
    refine g_goto C (tgt := 27) (dk kX8_label 6 rfl) (by decide) ?_
    obtain ⟨q15, eq15, h⟩ := bd_inv h
    obtain ⟨x17, ex17, h⟩ := lt_inv h
    obtain ⟨μ16, eμ16, h⟩ := lt_inv h
    rw [show q15 = (x17, μ16) from by rw [ex17, eμ16]] at eq15
    refine g_callV C E.2 (rest := []) 1 (ct_X8_throwsAt k0 eq15) wd_5_48 mm_X8_throwsAt ⟨rfl, by decide, by decide, by decide⟩ rfl (by decide) k0 (by decide) rfl rfl (Nat.le_of_ble_eq_true rfl) (by decide) (dk kX8_label 15 rfl) ?_
    refine g_if_eq C (tgt := 37) (dk kX8_label 16 rfl) (by decide) (fun c18 => ?_) (fun c18 => ?_)
    · replace h := ite_t h c18
      refine g_aload_n C (i := 0) 0 rfl rfl (dk kX8_label 19 rfl) ?_
      refine g_iload_n C (i := 1) 1 rfl rfl (dk kX8_label 20 rfl) ?_
      refine g_iload_n C (i := 2) 2 rfl rfl (dk kX8_label 21 rfl) ?_
      obtain ⟨x20, eq19, h⟩ := bd_inv h
      refine g_callV C E.2 (rest := []) 2 (ct_X8_ofLabel k0 eq19) wd_5_205 mm_X8_ofLabel ⟨rfl, by decide, by decide, by decide⟩ rfl (by decide) k0 (by decide) rfl rfl (Nat.le_of_ble_eq_true rfl) (by decide) (dk kX8_label 22 rfl) ?_
      obtain ⟨h8, h9⟩ := Prod.mk.inj (Option.some.inj h)
      subst h8
      subst h9
      exact g_iret C E rfl rfl (Nat.le_refl 0) (Nat.le_refl 0) (dk kX8_label 23 rfl)
    · replace h := ite_f h c18
      refine g_iconst C (v := 0) (by decide) (dk kX8_label 17 rfl) ?_
      refine g_goto C (tgt := 43) (dk kX8_label 18 rfl) (by decide) ?_
      obtain ⟨h8, h9⟩ := Prod.mk.inj (Option.some.inj h)
      subst h8
      subst h9
      exact g_iret C E rfl rfl (Nat.le_refl 0) (Nat.le_refl 0) (dk kX8_label 23 rfl)
theorem ct_X8_label {l : Launch} {Z : ZZ} {μ : Mm} {a0 : Nat} {a1 : Int32} {a2 : Int32} {r : Int32} {μ' : Mm} (k0 : (zk Z a0).1 = 6) (h : f_X8_label (zk Z) μ a0 a1 a2 = some (r, μ')) : CtM l Z false yX8_label cX8_label 3 (some .int) 3 0 0 [.ref (za Z a0), .int a1, .int a2] μ (some (.int r)) Z μ' := ct_of rfl rfl (Nat.le_of_ble_eq_true rfl) (fun X C E => t_X8_label μ a0 a1 a2 r μ' k0 h C E)

def qX8_mostWorn : List (Nat × Instr × Nat) := [(0, .aload_n 0, 1), (1, .iconst 0, 1), (2, .putfield 25, 3), (5, .aload_n 0, 1), (6, .invokevirtual 152, 3), (9, .ireturn, 1)]
theorem kX8_mostWorn : ∀ q ∈ qX8_mostWorn, decode cX8_mostWorn q.1 = .ok q.2 := by decide +kernel
def f_X8_mostWorn (K : Nat → Nat × Nat) (μ : Mm) (a0 : Nat) : Option (Int32 × Mm) :=
  lt1 (sI μ a0 7 0) fun μ1 => bd (f_X8_worn K μ1 a0) fun x3 => some (x3, μ1)
set_option maxRecDepth 100000 in
set_option maxHeartbeats 4000000 in
theorem t_X8_mostWorn {l : Launch} {Z : ZZ} {X : XX} (μ : Mm) (a0 : Nat) (r : Int32) (μ' : Mm) (k0 : (zk Z a0).1 = 6) (h : f_X8_mostWorn (zk Z) μ a0 = some (r, μ')) (C : Cx l Z false X cX8_mostWorn RX8 1 (some .int)) (E : Ex Z X 2 0 0 (some (.int r)) Z μ') : G Z X 1 0 0 0 [(0, .ref (za Z a0))] [] μ := by
  unfold f_X8_mostWorn at h
  refine g_aload_n C (i := 0) 0 rfl rfl (dk kX8_mostWorn 0 rfl) ?_
  refine g_iconst C (v := 0) (by decide) (dk kX8_mostWorn 1 rfl) ?_
  obtain ⟨μ1, eμ1, h⟩ := lt_inv h
  refine pI_6_7 C k0 (C.w wd_5_10) eμ1 (dk kX8_mostWorn 2 rfl) ?_
  refine g_aload_n C (i := 0) 0 rfl rfl (dk kX8_mostWorn 3 rfl) ?_
  obtain ⟨x3, eq2, h⟩ := bd_inv h
  refine g_callV C E.2 (rest := []) 0 (ct_X8_worn k0 eq2) wd_6_17 mm_X8_worn ⟨rfl, by decide, by decide, by decide⟩ rfl (by decide) k0 (by decide) rfl rfl (Nat.le_of_ble_eq_true rfl) (by decide) (dk kX8_mostWorn 4 rfl) ?_
  obtain ⟨h8, h9⟩ := Prod.mk.inj (Option.some.inj h)
  subst h8
  subst h9
  exact g_iret C E rfl rfl (Nat.le_refl 0) (Nat.le_refl 0) (dk kX8_mostWorn 5 rfl)
theorem ct_X8_mostWorn {l : Launch} {Z : ZZ} {μ : Mm} {a0 : Nat} {r : Int32} {μ' : Mm} (k0 : (zk Z a0).1 = 6) (h : f_X8_mostWorn (zk Z) μ a0 = some (r, μ')) : CtM l Z false yX8_mostWorn cX8_mostWorn 1 (some .int) 2 0 0 [.ref (za Z a0)] μ (some (.int r)) Z μ' := ct_of rfl rfl (Nat.le_of_ble_eq_true rfl) (fun X C E => t_X8_mostWorn μ a0 r μ' k0 h C E)

def qX8_price : List (Nat × Instr × Nat) := [(0, .aload_n 0, 1), (1, .aload_n 0, 1), (2, .iload_n 1, 1), (3, .iload_n 2, 1), (4, .iload_n 3, 1), (5, .invokevirtual 125, 3), (8, .invokevirtual 44, 3), (11, .ifCond .eq 5, 3), (14, .iconst 0, 1), (15, .ireturn, 1), (16, .aload_n 0, 1), (17, .iload_n 1, 1), (18, .iload_n 2, 1), (19, .iload_n 3, 1), (20, .invokevirtual 115, 3), (23, .ifCond .le 7, 3), (26, .iconst (-1), 1), (27, .goto 10, 3), (30, .aload_n 0, 1), (31, .iload_n 1, 1), (32, .iload_n 2, 1), (33, .iload_n 3, 1), (34, .invokevirtual 122, 3), (37, .ireturn, 1)]
theorem kX8_price : ∀ q ∈ qX8_price, decode cX8_price q.1 = .ok q.2 := by decide +kernel
def f_X8_price (K : Nat → Nat × Nat) (μ : Mm) (a0 : Nat) (a1 : Int32) (a2 : Int32) (a3 : Int32) : Option (Int32 × Mm) :=
  bd (f_X8_wrong K μ a0 a1 a2 a3) fun x2 => bd (f_X8_throwsAt K μ a0 x2) fun q3 => lt1 q3.1 fun x5 => lt1 q3.2 fun μ4 => if x5 = 0 then (bd (f_X8_whyNot K μ4 a0 a1 a2 a3) fun x8 => if x8 ≤ 0 then (bd (f_X8_priceOf K μ4 a0 a1 a2 a3) fun x11 => some (x11, μ4)) else (some ((-1), μ4))) else (some (0, μ4))
set_option maxRecDepth 100000 in
set_option maxHeartbeats 4000000 in
theorem t_X8_price {l : Launch} {Z : ZZ} {X : XX} (μ : Mm) (a0 : Nat) (a1 : Int32) (a2 : Int32) (a3 : Int32) (r : Int32) (μ' : Mm) (k0 : (zk Z a0).1 = 6) (h : f_X8_price (zk Z) μ a0 a1 a2 a3 = some (r, μ')) (C : Cx l Z false X cX8_price RX8 4 (some .int)) (E : Ex Z X 4 0 0 (some (.int r)) Z μ') : G Z X 4 0 0 0 [(0, .ref (za Z a0)), (1, .int a1), (2, .int a2), (3, .int a3)] [] μ := by
  unfold f_X8_price at h
  refine g_aload_n C (i := 0) 0 rfl rfl (dk kX8_price 0 rfl) ?_
  refine g_aload_n C (i := 0) 0 rfl rfl (dk kX8_price 1 rfl) ?_
  refine g_iload_n C (i := 1) 1 rfl rfl (dk kX8_price 2 rfl) ?_
  refine g_iload_n C (i := 2) 2 rfl rfl (dk kX8_price 3 rfl) ?_
  refine g_iload_n C (i := 3) 3 rfl rfl (dk kX8_price 4 rfl) ?_
  obtain ⟨x2, eq1, h⟩ := bd_inv h
  refine g_callV C E.2 (rest := [.ref (za Z a0)]) 3 (ct_X8_wrong k0 eq1) wd_5_144 mm_X8_wrong ⟨rfl, by decide, by decide, by decide⟩ rfl (by decide) k0 (by decide) rfl rfl (Nat.le_of_ble_eq_true rfl) (by decide) (dk kX8_price 5 rfl) ?_
  obtain ⟨q3, eq3, h⟩ := bd_inv h
  obtain ⟨x5, ex5, h⟩ := lt_inv h
  obtain ⟨μ4, eμ4, h⟩ := lt_inv h
  rw [show q3 = (x5, μ4) from by rw [ex5, eμ4]] at eq3
  refine g_callV C E.2 (rest := []) 1 (ct_X8_throwsAt k0 eq3) wd_5_48 mm_X8_throwsAt ⟨rfl, by decide, by decide, by decide⟩ rfl (by decide) k0 (by decide) rfl rfl (Nat.le_of_ble_eq_true rfl) (by decide) (dk kX8_price 6 rfl) ?_
  refine g_if_eq C (tgt := 16) (dk kX8_price 7 rfl) (by decide) (fun c6 => ?_) (fun c6 => ?_)
  · replace h := ite_t h c6
    refine g_aload_n C (i := 0) 0 rfl rfl (dk kX8_price 10 rfl) ?_
    refine g_iload_n C (i := 1) 1 rfl rfl (dk kX8_price 11 rfl) ?_
    refine g_iload_n C (i := 2) 2 rfl rfl (dk kX8_price 12 rfl) ?_
    refine g_iload_n C (i := 3) 3 rfl rfl (dk kX8_price 13 rfl) ?_
    obtain ⟨x8, eq7, h⟩ := bd_inv h
    refine g_callV C E.2 (rest := []) 3 (ct_X8_whyNot k0 eq7) wd_5_148 mm_X8_whyNot ⟨rfl, by decide, by decide, by decide⟩ rfl (by decide) k0 (by decide) rfl rfl (Nat.le_of_ble_eq_true rfl) (by decide) (dk kX8_price 14 rfl) ?_
    refine g_if_le C (tgt := 30) (dk kX8_price 15 rfl) (by decide) (fun c9 => ?_) (fun c9 => ?_)
    · replace h := ite_t h c9
      refine g_aload_n C (i := 0) 0 rfl rfl (dk kX8_price 18 rfl) ?_
      refine g_iload_n C (i := 1) 1 rfl rfl (dk kX8_price 19 rfl) ?_
      refine g_iload_n C (i := 2) 2 rfl rfl (dk kX8_price 20 rfl) ?_
      refine g_iload_n C (i := 3) 3 rfl rfl (dk kX8_price 21 rfl) ?_
      obtain ⟨x11, eq10, h⟩ := bd_inv h
      refine g_callV C E.2 (rest := []) 3 (ct_X8_priceOf k0 eq10) wd_5_163 mm_X8_priceOf ⟨rfl, by decide, by decide, by decide⟩ rfl (by decide) k0 (by decide) rfl rfl (Nat.le_of_ble_eq_true rfl) (by decide) (dk kX8_price 22 rfl) ?_
      obtain ⟨h8, h9⟩ := Prod.mk.inj (Option.some.inj h)
      subst h8
      subst h9
      exact g_iret C E rfl rfl (Nat.le_refl 0) (Nat.le_refl 0) (dk kX8_price 23 rfl)
    · replace h := ite_f h c9
      refine g_iconst C (v := (-1)) (by decide) (dk kX8_price 16 rfl) ?_
      refine g_goto C (tgt := 37) (dk kX8_price 17 rfl) (by decide) ?_
      obtain ⟨h8, h9⟩ := Prod.mk.inj (Option.some.inj h)
      subst h8
      subst h9
      exact g_iret C E rfl rfl (Nat.le_refl 0) (Nat.le_refl 0) (dk kX8_price 23 rfl)
  · replace h := ite_f h c6
    refine g_iconst C (v := 0) (by decide) (dk kX8_price 8 rfl) ?_
    obtain ⟨h8, h9⟩ := Prod.mk.inj (Option.some.inj h)
    subst h8
    subst h9
    exact g_iret C E rfl rfl (Nat.le_refl 0) (Nat.le_refl 0) (dk kX8_price 9 rfl)
theorem ct_X8_price {l : Launch} {Z : ZZ} {μ : Mm} {a0 : Nat} {a1 : Int32} {a2 : Int32} {a3 : Int32} {r : Int32} {μ' : Mm} (k0 : (zk Z a0).1 = 6) (h : f_X8_price (zk Z) μ a0 a1 a2 a3 = some (r, μ')) : CtM l Z false yX8_price cX8_price 4 (some .int) 4 0 0 [.ref (za Z a0), .int a1, .int a2, .int a3] μ (some (.int r)) Z μ' := ct_of rfl rfl (Nat.le_of_ble_eq_true rfl) (fun X C E => t_X8_price μ a0 a1 a2 a3 r μ' k0 h C E)

def qX8_readableFor : List (Nat × Instr × Nat) := [(0, .aload_n 0, 1), (1, .aload_n 0, 1), (2, .iload_n 1, 1), (3, .iload_n 2, 1), (4, .iload_n 3, 1), (5, .invokevirtual 125, 3), (8, .invokevirtual 44, 3), (11, .ifCond .eq 5, 3), (14, .iconst 0, 1), (15, .ireturn, 1), (16, .aload_n 0, 1), (17, .iload_n 1, 1), (18, .iload_n 2, 1), (19, .iload_n 3, 1), (20, .invokevirtual 115, 3), (23, .ifCond .le 5, 3), (26, .iconst (-1), 1), (27, .ireturn, 1), (28, .aload_n 0, 1), (29, .invokevirtual 109, 3), (32, .iconst 0, 1), (33, .istore 4, 2), (35, .iload 4, 2), (37, .bipush 100, 2), (39, .if_icmp .ge 29, 3), (42, .aload_n 0, 1), (43, .aload_n 0, 1), (44, .getfield 13, 3), (47, .iload_n 2, 1), (48, .iload_n 3, 1), (49, .invokevirtual 112, 3), (52, .aload_n 0, 1), (53, .getfield 13, 3), (56, .bipush 6, 2), (58, .iaload, 1), (59, .if_icmp .gt 9, 3), (62, .iinc 4 1, 3), (65, .goto (-30), 3), (68, .iload 4, 2), (70, .ireturn, 1)]
theorem kX8_readableFor : ∀ q ∈ qX8_readableFor, decode cX8_readableFor q.1 = .ok q.2 := by decide +kernel
def f_X8_readableFor_l35 (K : Nat → Nat × Nat) (v0 : Nat) (v2 : Int32) (v3 : Int32) : Nat → Mm → Int32 → Option (Int32 × Mm)
  | 0, _, _ => none
  | n + 1, μ, v4 => if 100 ≤ v4 then (some (v4, μ)) else (bd (rf K μ v0 1 8) fun b13 => bd (f_X8_plays K μ v0 b13 v2 v3) fun q14 => lt1 q14.1 fun x16 => lt1 q14.2 fun μ15 => bd (rf K μ15 v0 1 8) fun b17 => gd (inb 6 (K b17).2) <| if (μ15.1 b17 (ix 6)) < x16 then (some (v4, μ15)) else (lt1 (α := Int32) (v4 + 1) fun x20 => f_X8_readableFor_l35 K v0 v2 v3 n μ15 x20))
def f_X8_readableFor (K : Nat → Nat × Nat) (μ : Mm) (a0 : Nat) (a1 : Int32) (a2 : Int32) (a3 : Int32) : Option (Int32 × Mm) :=
  bd (f_X8_wrong K μ a0 a1 a2 a3) fun x2 => bd (f_X8_throwsAt K μ a0 x2) fun q3 => lt1 q3.1 fun x5 => lt1 q3.2 fun μ4 => if x5 = 0 then (bd (f_X8_whyNot K μ4 a0 a1 a2 a3) fun x8 => if x8 ≤ 0 then (bd (f_X8_copies K μ4 a0) fun μ11 => bd (f_X8_readableFor_l35 K a0 a2 a3 FU μ11 0) fun q21 => lt1 q21.1 fun x22 => lt1 q21.2 fun μ23 => some (x22, μ23)) else (some ((-1), μ4))) else (some (0, μ4))
set_option maxRecDepth 100000 in
set_option maxHeartbeats 4000000 in
theorem gl_X8_readableFor_35 {l : Launch} {Z : ZZ} {X : XX} (v0 : Nat) (v2 : Int32) (v3 : Int32) (k0 : (zk Z v0).1 = 6) (C : Cx l Z false X cX8_readableFor RX8 5 (some .int)) (E : xR X = rmm 4 0 0) : ∀ (n : Nat) (μ : Mm) (v4 : Int32) (y : Int32 × Mm), f_X8_readableFor_l35 (zk Z) v0 v2 v3 n μ v4 = some y → G Z X 5 0 0 68 [(4, .int y.1)] [] y.2 → G Z X 5 0 0 35 [(0, .ref (za Z v0)), (2, .int v2), (3, .int v3), (4, .int v4)] [] μ := by
  intro n
  induction n with
  | zero => intro μ v4 y h he; unfold f_X8_readableFor_l35 at h; cases h
  | succ n ih =>
    intro μ v4 y h he
    unfold f_X8_readableFor_l35 at h
    refine g_iload C (i := 4) 3 rfl (dk kX8_readableFor 22 rfl) ?_
    refine g_bipush C (v := 100) (by decide) (dk kX8_readableFor 23 rfl) ?_
    refine g_icmp_ge C (tgt := 68) (dk kX8_readableFor 24 rfl) (by decide) (fun c12 => ?_) (fun c12 => ?_)
    · replace h := ite_t h c12
      cases h
      exact g_sub [3] rfl he
    · replace h := ite_f h c12
      refine g_aload_n C (i := 0) 0 rfl rfl (dk kX8_readableFor 25 rfl) ?_
      refine g_aload_n C (i := 0) 0 rfl rfl (dk kX8_readableFor 26 rfl) ?_
      obtain ⟨b13, eb13, h⟩ := bd_inv h
      obtain ⟨rb13, kb13⟩ := rf_inv eb13
      refine gR_6_1 C k0 (C.w wd_5_4) rb13 (dk kX8_readableFor 27 rfl) ?_
      refine g_iload_n C (i := 2) 1 rfl rfl (dk kX8_readableFor 28 rfl) ?_
      refine g_iload_n C (i := 3) 2 rfl rfl (dk kX8_readableFor 29 rfl) ?_
      obtain ⟨q14, eq14, h⟩ := bd_inv h
      obtain ⟨x16, ex16, h⟩ := lt_inv h
      obtain ⟨μ15, eμ15, h⟩ := lt_inv h
      rw [show q14 = (x16, μ15) from by rw [ex16, eμ15]] at eq14
      refine g_callV C E (rest := []) 3 (ct_X8_plays k0 kb13 eq14) wd_5_167 mm_X8_plays ⟨rfl, by decide, by decide, by decide⟩ rfl (by decide) k0 (by decide) rfl rfl (Nat.le_of_ble_eq_true rfl) (by decide) (dk kX8_readableFor 30 rfl) ?_
      refine g_aload_n C (i := 0) 0 rfl rfl (dk kX8_readableFor 31 rfl) ?_
      obtain ⟨b17, eb17, h⟩ := bd_inv h
      obtain ⟨rb17, kb17⟩ := rf_inv eb17
      refine gR_6_1 C k0 (C.w wd_5_4) rb17 (dk kX8_readableFor 32 rfl) ?_
      refine g_bipush C (v := 6) (by decide) (dk kX8_readableFor 33 rfl) ?_
      obtain ⟨c18, h⟩ := gd_inv h
      refine g_iald C kb17 c18 (dk kX8_readableFor 34 rfl) ?_
      refine g_icmp_gt C (tgt := 68) (dk kX8_readableFor 35 rfl) (by decide) (fun c19 => ?_) (fun c19 => ?_)
      · replace h := ite_t h c19
        cases h
        exact g_sub [3] rfl he
      · replace h := ite_f h c19
        obtain ⟨x20, ex20, h⟩ := lt_inv h
        refine g_iinc C (i := 4) (v := x20) (lv' := [(4, .int x20), (0, .ref (za Z v0)), (2, .int v2), (3, .int v3)]) 3 (dk kX8_readableFor 36 rfl) rfl (by rw [ex20]; rfl) (by decide) rfl ?_
        refine g_goto C (tgt := 35) (dk kX8_readableFor 37 rfl) (by decide) ?_
        exact g_sub [1, 2, 3, 0] rfl (ih μ15 x20 y h he)
set_option maxRecDepth 100000 in
set_option maxHeartbeats 4000000 in
theorem t_X8_readableFor {l : Launch} {Z : ZZ} {X : XX} (μ : Mm) (a0 : Nat) (a1 : Int32) (a2 : Int32) (a3 : Int32) (r : Int32) (μ' : Mm) (k0 : (zk Z a0).1 = 6) (h : f_X8_readableFor (zk Z) μ a0 a1 a2 a3 = some (r, μ')) (C : Cx l Z false X cX8_readableFor RX8 5 (some .int)) (E : Ex Z X 4 0 0 (some (.int r)) Z μ') : G Z X 5 0 0 0 [(0, .ref (za Z a0)), (1, .int a1), (2, .int a2), (3, .int a3)] [] μ := by
  unfold f_X8_readableFor at h
  refine g_aload_n C (i := 0) 0 rfl rfl (dk kX8_readableFor 0 rfl) ?_
  refine g_aload_n C (i := 0) 0 rfl rfl (dk kX8_readableFor 1 rfl) ?_
  refine g_iload_n C (i := 1) 1 rfl rfl (dk kX8_readableFor 2 rfl) ?_
  refine g_iload_n C (i := 2) 2 rfl rfl (dk kX8_readableFor 3 rfl) ?_
  refine g_iload_n C (i := 3) 3 rfl rfl (dk kX8_readableFor 4 rfl) ?_
  obtain ⟨x2, eq1, h⟩ := bd_inv h
  refine g_callV C E.2 (rest := [.ref (za Z a0)]) 3 (ct_X8_wrong k0 eq1) wd_5_144 mm_X8_wrong ⟨rfl, by decide, by decide, by decide⟩ rfl (by decide) k0 (by decide) rfl rfl (Nat.le_of_ble_eq_true rfl) (by decide) (dk kX8_readableFor 5 rfl) ?_
  obtain ⟨q3, eq3, h⟩ := bd_inv h
  obtain ⟨x5, ex5, h⟩ := lt_inv h
  obtain ⟨μ4, eμ4, h⟩ := lt_inv h
  rw [show q3 = (x5, μ4) from by rw [ex5, eμ4]] at eq3
  refine g_callV C E.2 (rest := []) 1 (ct_X8_throwsAt k0 eq3) wd_5_48 mm_X8_throwsAt ⟨rfl, by decide, by decide, by decide⟩ rfl (by decide) k0 (by decide) rfl rfl (Nat.le_of_ble_eq_true rfl) (by decide) (dk kX8_readableFor 6 rfl) ?_
  refine g_if_eq C (tgt := 16) (dk kX8_readableFor 7 rfl) (by decide) (fun c6 => ?_) (fun c6 => ?_)
  · replace h := ite_t h c6
    refine g_aload_n C (i := 0) 0 rfl rfl (dk kX8_readableFor 10 rfl) ?_
    refine g_iload_n C (i := 1) 1 rfl rfl (dk kX8_readableFor 11 rfl) ?_
    refine g_iload_n C (i := 2) 2 rfl rfl (dk kX8_readableFor 12 rfl) ?_
    refine g_iload_n C (i := 3) 3 rfl rfl (dk kX8_readableFor 13 rfl) ?_
    obtain ⟨x8, eq7, h⟩ := bd_inv h
    refine g_callV C E.2 (rest := []) 3 (ct_X8_whyNot k0 eq7) wd_5_148 mm_X8_whyNot ⟨rfl, by decide, by decide, by decide⟩ rfl (by decide) k0 (by decide) rfl rfl (Nat.le_of_ble_eq_true rfl) (by decide) (dk kX8_readableFor 14 rfl) ?_
    refine g_if_le C (tgt := 28) (dk kX8_readableFor 15 rfl) (by decide) (fun c9 => ?_) (fun c9 => ?_)
    · replace h := ite_t h c9
      refine g_aload_n C (i := 0) 0 rfl rfl (dk kX8_readableFor 18 rfl) ?_
      obtain ⟨μ11, eq10, h⟩ := bd_inv h
      refine g_callV C E.2 (rest := []) 0 (ct_X8_copies k0 eq10) wd_5_189 mm_X8_copies ⟨rfl, by decide, by decide, by decide⟩ rfl (by decide) k0 (by decide) rfl rfl (Nat.le_of_ble_eq_true rfl) (by decide) (dk kX8_readableFor 19 rfl) ?_
      refine g_iconst C (v := 0) (by decide) (dk kX8_readableFor 20 rfl) ?_
      refine g_istore C (i := 4) (lv' := [(4, .int 0), (0, .ref (za Z a0)), (1, .int a1), (2, .int a2), (3, .int a3)]) (dk kX8_readableFor 21 rfl) (by decide) rfl ?_
      obtain ⟨q21, eq21, h⟩ := bd_inv h
      refine g_sub [1, 3, 4, 0] (lv' := [(0, .ref (za Z a0)), (2, .int a2), (3, .int a3), (4, .int 0)]) rfl ?_
      refine gl_X8_readableFor_35 a0 a2 a3 k0 C E.2 FU μ11 0 _ eq21 ?_
      obtain ⟨x22, ex22, h⟩ := lt_inv h
      obtain ⟨μ23, eμ23, h⟩ := lt_inv h
      rw [← ex22, ← eμ23]
      refine g_iload C (i := 4) 0 rfl (dk kX8_readableFor 38 rfl) ?_
      obtain ⟨h8, h9⟩ := Prod.mk.inj (Option.some.inj h)
      subst h8
      subst h9
      exact g_iret C E rfl rfl (Nat.le_refl 0) (Nat.le_refl 0) (dk kX8_readableFor 39 rfl)
    · replace h := ite_f h c9
      refine g_iconst C (v := (-1)) (by decide) (dk kX8_readableFor 16 rfl) ?_
      obtain ⟨h8, h9⟩ := Prod.mk.inj (Option.some.inj h)
      subst h8
      subst h9
      exact g_iret C E rfl rfl (Nat.le_refl 0) (Nat.le_refl 0) (dk kX8_readableFor 17 rfl)
  · replace h := ite_f h c6
    refine g_iconst C (v := 0) (by decide) (dk kX8_readableFor 8 rfl) ?_
    obtain ⟨h8, h9⟩ := Prod.mk.inj (Option.some.inj h)
    subst h8
    subst h9
    exact g_iret C E rfl rfl (Nat.le_refl 0) (Nat.le_refl 0) (dk kX8_readableFor 9 rfl)
theorem ct_X8_readableFor {l : Launch} {Z : ZZ} {μ : Mm} {a0 : Nat} {a1 : Int32} {a2 : Int32} {a3 : Int32} {r : Int32} {μ' : Mm} (k0 : (zk Z a0).1 = 6) (h : f_X8_readableFor (zk Z) μ a0 a1 a2 a3 = some (r, μ')) : CtM l Z false yX8_readableFor cX8_readableFor 5 (some .int) 4 0 0 [.ref (za Z a0), .int a1, .int a2, .int a3] μ (some (.int r)) Z μ' := ct_of rfl rfl (Nat.le_of_ble_eq_true rfl) (fun X C E => t_X8_readableFor μ a0 a1 a2 a3 r μ' k0 h C E)

def qX8_reason : List (Nat × Instr × Nat) := [(0, .aload_n 0, 1), (1, .aload_n 0, 1), (2, .iload_n 1, 1), (3, .iload_n 2, 1), (4, .iload_n 3, 1), (5, .invokevirtual 125, 3), (8, .invokevirtual 44, 3), (11, .ifCond .eq 7, 3), (14, .iconst 0, 1), (15, .goto 10, 3), (18, .aload_n 0, 1), (19, .iload_n 1, 1), (20, .iload_n 2, 1), (21, .iload_n 3, 1), (22, .invokevirtual 115, 3), (25, .ireturn, 1)]
theorem kX8_reason : ∀ q ∈ qX8_reason, decode cX8_reason q.1 = .ok q.2 := by decide +kernel
def f_X8_reason (K : Nat → Nat × Nat) (μ : Mm) (a0 : Nat) (a1 : Int32) (a2 : Int32) (a3 : Int32) : Option (Int32 × Mm) :=
  bd (f_X8_wrong K μ a0 a1 a2 a3) fun x2 => bd (f_X8_throwsAt K μ a0 x2) fun q3 => lt1 q3.1 fun x5 => lt1 q3.2 fun μ4 => if x5 = 0 then (bd (f_X8_whyNot K μ4 a0 a1 a2 a3) fun x8 => some (x8, μ4)) else (some (0, μ4))
set_option maxRecDepth 100000 in
set_option maxHeartbeats 4000000 in
theorem t_X8_reason {l : Launch} {Z : ZZ} {X : XX} (μ : Mm) (a0 : Nat) (a1 : Int32) (a2 : Int32) (a3 : Int32) (r : Int32) (μ' : Mm) (k0 : (zk Z a0).1 = 6) (h : f_X8_reason (zk Z) μ a0 a1 a2 a3 = some (r, μ')) (C : Cx l Z false X cX8_reason RX8 4 (some .int)) (E : Ex Z X 4 0 0 (some (.int r)) Z μ') : G Z X 4 0 0 0 [(0, .ref (za Z a0)), (1, .int a1), (2, .int a2), (3, .int a3)] [] μ := by
  unfold f_X8_reason at h
  refine g_aload_n C (i := 0) 0 rfl rfl (dk kX8_reason 0 rfl) ?_
  refine g_aload_n C (i := 0) 0 rfl rfl (dk kX8_reason 1 rfl) ?_
  refine g_iload_n C (i := 1) 1 rfl rfl (dk kX8_reason 2 rfl) ?_
  refine g_iload_n C (i := 2) 2 rfl rfl (dk kX8_reason 3 rfl) ?_
  refine g_iload_n C (i := 3) 3 rfl rfl (dk kX8_reason 4 rfl) ?_
  obtain ⟨x2, eq1, h⟩ := bd_inv h
  refine g_callV C E.2 (rest := [.ref (za Z a0)]) 3 (ct_X8_wrong k0 eq1) wd_5_144 mm_X8_wrong ⟨rfl, by decide, by decide, by decide⟩ rfl (by decide) k0 (by decide) rfl rfl (Nat.le_of_ble_eq_true rfl) (by decide) (dk kX8_reason 5 rfl) ?_
  obtain ⟨q3, eq3, h⟩ := bd_inv h
  obtain ⟨x5, ex5, h⟩ := lt_inv h
  obtain ⟨μ4, eμ4, h⟩ := lt_inv h
  rw [show q3 = (x5, μ4) from by rw [ex5, eμ4]] at eq3
  refine g_callV C E.2 (rest := []) 1 (ct_X8_throwsAt k0 eq3) wd_5_48 mm_X8_throwsAt ⟨rfl, by decide, by decide, by decide⟩ rfl (by decide) k0 (by decide) rfl rfl (Nat.le_of_ble_eq_true rfl) (by decide) (dk kX8_reason 6 rfl) ?_
  refine g_if_eq C (tgt := 18) (dk kX8_reason 7 rfl) (by decide) (fun c6 => ?_) (fun c6 => ?_)
  · replace h := ite_t h c6
    refine g_aload_n C (i := 0) 0 rfl rfl (dk kX8_reason 10 rfl) ?_
    refine g_iload_n C (i := 1) 1 rfl rfl (dk kX8_reason 11 rfl) ?_
    refine g_iload_n C (i := 2) 2 rfl rfl (dk kX8_reason 12 rfl) ?_
    refine g_iload_n C (i := 3) 3 rfl rfl (dk kX8_reason 13 rfl) ?_
    obtain ⟨x8, eq7, h⟩ := bd_inv h
    refine g_callV C E.2 (rest := []) 3 (ct_X8_whyNot k0 eq7) wd_5_148 mm_X8_whyNot ⟨rfl, by decide, by decide, by decide⟩ rfl (by decide) k0 (by decide) rfl rfl (Nat.le_of_ble_eq_true rfl) (by decide) (dk kX8_reason 14 rfl) ?_
    obtain ⟨h8, h9⟩ := Prod.mk.inj (Option.some.inj h)
    subst h8
    subst h9
    exact g_iret C E rfl rfl (Nat.le_refl 0) (Nat.le_refl 0) (dk kX8_reason 15 rfl)
  · replace h := ite_f h c6
    refine g_iconst C (v := 0) (by decide) (dk kX8_reason 8 rfl) ?_
    refine g_goto C (tgt := 25) (dk kX8_reason 9 rfl) (by decide) ?_
    obtain ⟨h8, h9⟩ := Prod.mk.inj (Option.some.inj h)
    subst h8
    subst h9
    exact g_iret C E rfl rfl (Nat.le_refl 0) (Nat.le_refl 0) (dk kX8_reason 15 rfl)
theorem ct_X8_reason {l : Launch} {Z : ZZ} {μ : Mm} {a0 : Nat} {a1 : Int32} {a2 : Int32} {a3 : Int32} {r : Int32} {μ' : Mm} (k0 : (zk Z a0).1 = 6) (h : f_X8_reason (zk Z) μ a0 a1 a2 a3 = some (r, μ')) : CtM l Z false yX8_reason cX8_reason 4 (some .int) 4 0 0 [.ref (za Z a0), .int a1, .int a2, .int a3] μ (some (.int r)) Z μ' := ct_of rfl rfl (Nat.le_of_ble_eq_true rfl) (fun X C E => t_X8_reason μ a0 a1 a2 a3 r μ' k0 h C E)

def qX8_row : List (Nat × Instr × Nat) := [(0, .aload_n 0, 1), (1, .aload_n 0, 1), (2, .iload_n 1, 1), (3, .invokevirtual 65, 3), (6, .ifCond .ne 7, 3), (9, .iconst 1, 1), (10, .goto 17, 3), (13, .iload_n 2, 1), (14, .iconst 0, 1), (15, .iconst 5, 1), (16, .invokestatic 36, 3), (19, .ifCond .eq 7, 3), (22, .iconst 0, 1), (23, .goto 4, 3), (26, .iconst 2, 1), (27, .invokevirtual 44, 3), (30, .ifCond .eq 7, 3), (33, .iconst 0, 1), (34, .goto 11, 3), (37, .aload_n 0, 1), (38, .iload_n 1, 1), (39, .iconst 2, 1), (40, .iload_n 2, 1), (41, .iadd, 1), (42, .invokevirtual 68, 3), (45, .ireturn, 1)]
theorem kX8_row : ∀ q ∈ qX8_row, decode cX8_row q.1 = .ok q.2 := by decide +kernel
def f_X8_row (K : Nat → Nat × Nat) (μ : Mm) (a0 : Nat) (a1 : Int32) (a2 : Int32) : Option (Int32 × Mm) :=
  bd (f_X8_isLabel K μ a0 a1) fun x2 => if x2 = 0 then (bd (f_X8_throwsAt K μ a0 1) fun q15 => lt1 q15.1 fun x17 => lt1 q15.2 fun μ16 => if x17 = 0 then (bd (f_X8_labelOf K μ16 a0 a1 (2 + a2)) fun x20 => some (x20, μ16)) else (some (0, μ16))) else (bd (f_X8_in a2 0 5) fun x5 => lt1 (α := Int32) (if x5 = 0 then 2 else 0) fun x6 => bd (f_X8_throwsAt K μ a0 x6) fun q8 => lt1 q8.1 fun x10 => lt1 q8.2 fun μ9 => if x10 = 0 then (bd (f_X8_labelOf K μ9 a0 a1 (2 + a2)) fun x13 => some (x13, μ9)) else (some (0, μ9)))
set_option maxRecDepth 100000 in
set_option maxHeartbeats 4000000 in
theorem t_X8_row {l : Launch} {Z : ZZ} {X : XX} (μ : Mm) (a0 : Nat) (a1 : Int32) (a2 : Int32) (r : Int32) (μ' : Mm) (k0 : (zk Z a0).1 = 6) (h : f_X8_row (zk Z) μ a0 a1 a2 = some (r, μ')) (C : Cx l Z false X cX8_row RX8 3 (some .int)) (E : Ex Z X 2 0 0 (some (.int r)) Z μ') : G Z X 3 0 0 0 [(0, .ref (za Z a0)), (1, .int a1), (2, .int a2)] [] μ := by
  unfold f_X8_row at h
  refine g_aload_n C (i := 0) 0 rfl rfl (dk kX8_row 0 rfl) ?_
  refine g_aload_n C (i := 0) 0 rfl rfl (dk kX8_row 1 rfl) ?_
  refine g_iload_n C (i := 1) 1 rfl rfl (dk kX8_row 2 rfl) ?_
  obtain ⟨x2, eq1, h⟩ := bd_inv h
  refine g_callV C E.2 (rest := [.ref (za Z a0)]) 1 (ct_X8_isLabel k0 eq1) wd_5_85 mm_X8_isLabel ⟨rfl, by decide, by decide, by decide⟩ rfl (by decide) k0 (by decide) rfl rfl (Nat.le_of_ble_eq_true rfl) (by decide) (dk kX8_row 3 rfl) ?_
  refine g_if_ne C (tgt := 13) (dk kX8_row 4 rfl) (by decide) (fun c3 => ?_) (fun c3 => ?_)
  · replace h := ite_f h c3
    refine g_iload_n C (i := 2) 2 rfl rfl (dk kX8_row 7 rfl) ?_
    refine g_iconst C (v := 0) (by decide) (dk kX8_row 8 rfl) ?_
    refine g_iconst C (v := 5) (by decide) (dk kX8_row 9 rfl) ?_
    obtain ⟨x5, eq4, h⟩ := bd_inv h
    refine g_callS C E.2 (rest := [.ref (za Z a0)]) 3 (ct_X8_in  eq4) wd_5_45 mm_X8_in ⟨by decide, by decide, by decide⟩ rfl (by decide) rfl (Nat.le_of_ble_eq_true rfl) (by decide) (dk kX8_row 10 rfl) ?_
    obtain ⟨x6, ex6, h⟩ := lt_inv h
    have kj7 : G Z X 3 0 0 27 [(0, .ref (za Z a0)), (1, .int a1), (2, .int a2)] [.int x6, .ref (za Z a0)] μ := by
      obtain ⟨q8, eq8, h⟩ := bd_inv h
      obtain ⟨x10, ex10, h⟩ := lt_inv h
      obtain ⟨μ9, eμ9, h⟩ := lt_inv h
      rw [show q8 = (x10, μ9) from by rw [ex10, eμ9]] at eq8
      refine g_callV C E.2 (rest := []) 1 (ct_X8_throwsAt k0 eq8) wd_5_48 mm_X8_throwsAt ⟨rfl, by decide, by decide, by decide⟩ rfl (by decide) k0 (by decide) rfl rfl (Nat.le_of_ble_eq_true rfl) (by decide) (dk kX8_row 15 rfl) ?_
      refine g_if_eq C (tgt := 37) (dk kX8_row 16 rfl) (by decide) (fun c11 => ?_) (fun c11 => ?_)
      · replace h := ite_t h c11
        refine g_aload_n C (i := 0) 0 rfl rfl (dk kX8_row 19 rfl) ?_
        refine g_iload_n C (i := 1) 1 rfl rfl (dk kX8_row 20 rfl) ?_
        refine g_iconst C (v := 2) (by decide) (dk kX8_row 21 rfl) ?_
        refine g_iload_n C (i := 2) 2 rfl rfl (dk kX8_row 22 rfl) ?_
        refine g_iadd C (dk kX8_row 23 rfl) ?_
        obtain ⟨x13, eq12, h⟩ := bd_inv h
        refine g_callV C E.2 (rest := []) 2 (ct_X8_labelOf k0 eq12) wd_5_89 mm_X8_labelOf ⟨rfl, by decide, by decide, by decide⟩ rfl (by decide) k0 (by decide) rfl rfl (Nat.le_of_ble_eq_true rfl) (by decide) (dk kX8_row 24 rfl) ?_
        obtain ⟨h8, h9⟩ := Prod.mk.inj (Option.some.inj h)
        subst h8
        subst h9
        exact g_iret C E rfl rfl (Nat.le_refl 0) (Nat.le_refl 0) (dk kX8_row 25 rfl)
      · replace h := ite_f h c11
        refine g_iconst C (v := 0) (by decide) (dk kX8_row 17 rfl) ?_
        refine g_goto C (tgt := 45) (dk kX8_row 18 rfl) (by decide) ?_
        obtain ⟨h8, h9⟩ := Prod.mk.inj (Option.some.inj h)
        subst h8
        subst h9
        exact g_iret C E rfl rfl (Nat.le_refl 0) (Nat.le_refl 0) (dk kX8_row 25 rfl)
    clear h
    refine g_if_eq C (tgt := 26) (dk kX8_row 11 rfl) (by decide) (fun c14 => ?_) (fun c14 => ?_)
    · refine g_iconst C (v := 2) (by decide) (dk kX8_row 14 rfl) ?_
      exact g_nmi (by rw [ex6, if_pos c14]) kj7
    · refine g_iconst C (v := 0) (by decide) (dk kX8_row 12 rfl) ?_
      refine g_goto C (tgt := 27) (dk kX8_row 13 rfl) (by decide) ?_
      exact g_nmi (by rw [ex6, if_neg c14]) kj7
  · replace h := ite_t h c3
    refine g_iconst C (v := 1) (by decide) (dk kX8_row 5 rfl) ?_
    refine g_goto C (tgt := 27) (dk kX8_row 6 rfl) (by decide) ?_
    obtain ⟨q15, eq15, h⟩ := bd_inv h
    obtain ⟨x17, ex17, h⟩ := lt_inv h
    obtain ⟨μ16, eμ16, h⟩ := lt_inv h
    rw [show q15 = (x17, μ16) from by rw [ex17, eμ16]] at eq15
    refine g_callV C E.2 (rest := []) 1 (ct_X8_throwsAt k0 eq15) wd_5_48 mm_X8_throwsAt ⟨rfl, by decide, by decide, by decide⟩ rfl (by decide) k0 (by decide) rfl rfl (Nat.le_of_ble_eq_true rfl) (by decide) (dk kX8_row 15 rfl) ?_
    refine g_if_eq C (tgt := 37) (dk kX8_row 16 rfl) (by decide) (fun c18 => ?_) (fun c18 => ?_)
    · replace h := ite_t h c18
      refine g_aload_n C (i := 0) 0 rfl rfl (dk kX8_row 19 rfl) ?_
      refine g_iload_n C (i := 1) 1 rfl rfl (dk kX8_row 20 rfl) ?_
      refine g_iconst C (v := 2) (by decide) (dk kX8_row 21 rfl) ?_
      refine g_iload_n C (i := 2) 2 rfl rfl (dk kX8_row 22 rfl) ?_
      refine g_iadd C (dk kX8_row 23 rfl) ?_
      obtain ⟨x20, eq19, h⟩ := bd_inv h
      refine g_callV C E.2 (rest := []) 2 (ct_X8_labelOf k0 eq19) wd_5_89 mm_X8_labelOf ⟨rfl, by decide, by decide, by decide⟩ rfl (by decide) k0 (by decide) rfl rfl (Nat.le_of_ble_eq_true rfl) (by decide) (dk kX8_row 24 rfl) ?_
      obtain ⟨h8, h9⟩ := Prod.mk.inj (Option.some.inj h)
      subst h8
      subst h9
      exact g_iret C E rfl rfl (Nat.le_refl 0) (Nat.le_refl 0) (dk kX8_row 25 rfl)
    · replace h := ite_f h c18
      refine g_iconst C (v := 0) (by decide) (dk kX8_row 17 rfl) ?_
      refine g_goto C (tgt := 45) (dk kX8_row 18 rfl) (by decide) ?_
      obtain ⟨h8, h9⟩ := Prod.mk.inj (Option.some.inj h)
      subst h8
      subst h9
      exact g_iret C E rfl rfl (Nat.le_refl 0) (Nat.le_refl 0) (dk kX8_row 25 rfl)
theorem ct_X8_row {l : Launch} {Z : ZZ} {μ : Mm} {a0 : Nat} {a1 : Int32} {a2 : Int32} {r : Int32} {μ' : Mm} (k0 : (zk Z a0).1 = 6) (h : f_X8_row (zk Z) μ a0 a1 a2 = some (r, μ')) : CtM l Z false yX8_row cX8_row 3 (some .int) 2 0 0 [.ref (za Z a0), .int a1, .int a2] μ (some (.int r)) Z μ' := ct_of rfl rfl (Nat.le_of_ble_eq_true rfl) (fun X C E => t_X8_row μ a0 a1 a2 r μ' k0 h C E)

def qX8_runCommands : List (Nat × Instr × Nat) := [(0, .aload_n 0, 1), (1, .iconst 0, 1), (2, .putfield 25, 3), (5, .aload_n 0, 1), (6, .invokevirtual 224, 3), (9, .istore_n 1, 1), (10, .iload_n 1, 1), (11, .iconst (-1), 1), (12, .if_icmp .eq 8, 3), (15, .bipush (-10), 2), (17, .iload_n 1, 1), (18, .isub, 1), (19, .ireturn, 1), (20, .aload_n 0, 1), (21, .invokevirtual 48, 3), (24, .aload_n 0, 1), (25, .iconst 1, 1), (26, .putfield 29, 3), (29, .iconst 0, 1), (30, .istore_n 2, 1), (31, .iconst 1, 1), (32, .istore_n 3, 1), (33, .aload_n 0, 1), (34, .iconst 0, 1), (35, .putfield 155, 3), (38, .aload_n 0, 1), (39, .invokevirtual 170, 3), (42, .iload_n 3, 1), (43, .ifCond .eq 56, 3), (46, .aload_n 0, 1), (47, .getfield 155, 3), (50, .aload_n 0, 1), (51, .getfield 146, 3), (54, .if_icmp .ge 45, 3), (57, .aload_n 0, 1), (58, .invokevirtual 190, 3), (61, .ifCond .eq 21, 3), (64, .aload_n 0, 1), (65, .invokevirtual 227, 3), (68, .ifCond .lt 14, 3), (71, .aload_n 0, 1), (72, .getfield 25, 3), (75, .ifCond .ne 7, 3), (78, .iconst 1, 1), (79, .goto 4, 3), (82, .iconst 0, 1), (83, .istore_n 3, 1), (84, .iload_n 2, 1), (85, .iload_n 3, 1), (86, .ifCond .eq 7, 3), (89, .iconst 1, 1), (90, .goto 4, 3), (93, .iconst 0, 1), (94, .iadd, 1), (95, .istore_n 2, 1), (96, .goto (-54), 3), (99, .aload_n 0, 1), (100, .iconst 0, 1), (101, .putfield 29, 3), (104, .aload_n 0, 1), (105, .iconst 0, 1), (106, .putfield 25, 3), (109, .iload_n 2, 1), (110, .ireturn, 1)]
theorem kX8_runCommands : ∀ q ∈ qX8_runCommands, decode cX8_runCommands q.1 = .ok q.2 := by decide +kernel
def f_X8_runCommands_l42 (K : Nat → Nat × Nat) (v0 : Nat) : Nat → Mm → Int32 → Int32 → Option (Int32 × Mm)
  | 0, _, _, _ => none
  | n + 1, μ, v2, v3 => if v3 = 0 then (some (v2, μ)) else (if (μ.1 v0 6) ≤ (μ.1 v0 8) then (some (v2, μ)) else (bd (f_X8_reads K μ v0) fun q14 => lt1 q14.1 fun x16 => lt1 q14.2 fun μ15 => if x16 = 0 then (lt1 (α := Int32) (v2 + 0) fun x19 => f_X8_runCommands_l42 K v0 n μ15 x19 0) else (bd (f_X8_does K μ15 v0) fun q20 => lt1 q20.1 fun x22 => lt1 q20.2 fun μ21 => if x22 < 0 then (lt1 (α := Int32) (v2 + 0) fun x25 => f_X8_runCommands_l42 K v0 n μ21 x25 0) else (lt1 (α := Int32) (if (μ21.1 v0 7) = 0 then 1 else 0) fun x26 => lt1 (α := Int32) (if x26 = 0 then 0 else 1) fun x28 => lt1 (α := Int32) (v2 + x28) fun x30 => f_X8_runCommands_l42 K v0 n μ21 x30 x26))))
def f_X8_runCommands (K : Nat → Nat × Nat) (μ : Mm) (a0 : Nat) : Option (Int32 × Mm) :=
  lt1 (sI μ a0 7 0) fun μ1 => bd (f_X8_fault K μ1 a0) fun q2 => lt1 q2.1 fun x4 => lt1 q2.2 fun μ3 => if x4 = (-1) then (bd (f_X8_saves K μ3 a0) fun μ7 => lt1 (sI μ7 a0 4 1) fun μ8 => lt1 (sI μ8 a0 8 0) fun μ9 => bd (f_X8_skips K μ9 a0) fun μ11 => bd (f_X8_runCommands_l42 K a0 FU μ11 0 1) fun q33 => lt1 q33.1 fun x34 => lt1 q33.2 fun μ35 => lt1 (sI μ35 a0 4 0) fun μ36 => lt1 (sI μ36 a0 7 0) fun μ37 => some (x34, μ37)) else (some (((-10) - x4), μ3))
set_option maxRecDepth 100000 in
set_option maxHeartbeats 4000000 in
theorem gl_X8_runCommands_42 {l : Launch} {Z : ZZ} {X : XX} (v0 : Nat) (k0 : (zk Z v0).1 = 6) (C : Cx l Z false X cX8_runCommands RX8 4 (some .int)) (E : xR X = rmm 7 0 0) : ∀ (n : Nat) (μ : Mm) (v2 : Int32) (v3 : Int32) (y : Int32 × Mm), f_X8_runCommands_l42 (zk Z) v0 n μ v2 v3 = some y → G Z X 4 0 0 99 [(0, .ref (za Z v0)), (2, .int y.1)] [] y.2 → G Z X 4 0 0 42 [(0, .ref (za Z v0)), (2, .int v2), (3, .int v3)] [] μ := by
  intro n
  induction n with
  | zero => intro μ v2 v3 y h he; unfold f_X8_runCommands_l42 at h; cases h
  | succ n ih =>
    intro μ v2 v3 y h he
    unfold f_X8_runCommands_l42 at h
    refine g_iload_n C (i := 3) 2 rfl rfl (dk kX8_runCommands 27 rfl) ?_
    refine g_if_eq C (tgt := 99) (dk kX8_runCommands 28 rfl) (by decide) (fun c12 => ?_) (fun c12 => ?_)
    · replace h := ite_t h c12
      cases h
      exact g_sub [0, 1] rfl he
    · replace h := ite_f h c12
      refine g_aload_n C (i := 0) 0 rfl rfl (dk kX8_runCommands 29 rfl) ?_
      refine gI_6_8 C k0 (C.w wd_5_11) (dk kX8_runCommands 30 rfl) ?_
      refine g_aload_n C (i := 0) 0 rfl rfl (dk kX8_runCommands 31 rfl) ?_
      refine gI_6_6 C k0 (C.w wd_5_9) (dk kX8_runCommands 32 rfl) ?_
      refine g_icmp_ge C (tgt := 99) (dk kX8_runCommands 33 rfl) (by decide) (fun c13 => ?_) (fun c13 => ?_)
      · replace h := ite_t h c13
        cases h
        exact g_sub [0, 1] rfl he
      · replace h := ite_f h c13
        refine g_aload_n C (i := 0) 0 rfl rfl (dk kX8_runCommands 34 rfl) ?_
        obtain ⟨q14, eq14, h⟩ := bd_inv h
        obtain ⟨x16, ex16, h⟩ := lt_inv h
        obtain ⟨μ15, eμ15, h⟩ := lt_inv h
        rw [show q14 = (x16, μ15) from by rw [ex16, eμ15]] at eq14
        refine g_callV C E (rest := []) 0 (ct_X8_reads k0 eq14) wd_6_45 mm_X8_reads ⟨rfl, by decide, by decide, by decide⟩ rfl (by decide) k0 (by decide) rfl rfl (Nat.le_of_ble_eq_true rfl) (by decide) (dk kX8_runCommands 35 rfl) ?_
        refine g_if_eq C (tgt := 82) (dk kX8_runCommands 36 rfl) (by decide) (fun c17 => ?_) (fun c17 => ?_)
        · replace h := ite_t h c17
          refine g_iconst C (v := 0) (by decide) (dk kX8_runCommands 45 rfl) ?_
          refine g_istore_n C (i := 3) (lv' := [(3, .int 0), (0, .ref (za Z v0)), (2, .int v2)]) (dk kX8_runCommands 46 rfl) rfl (by decide) rfl ?_
          refine g_iload_n C (i := 2) 2 rfl rfl (dk kX8_runCommands 47 rfl) ?_
          refine g_iload_n C (i := 3) 0 rfl rfl (dk kX8_runCommands 48 rfl) ?_
          refine g_if_eq C (tgt := 93) (dk kX8_runCommands 49 rfl) (by decide) (fun c18 => ?_) (fun c => absurd c (by decide))
          refine g_iconst C (v := 0) (by decide) (dk kX8_runCommands 52 rfl) ?_
          refine g_iadd C (dk kX8_runCommands 53 rfl) ?_
          obtain ⟨x19, ex19, h⟩ := lt_inv h
          refine g_nmi ex19 ?_
          refine g_istore_n C (i := 2) (lv' := [(2, .int x19), (3, .int 0), (0, .ref (za Z v0))]) (dk kX8_runCommands 54 rfl) rfl (by decide) rfl ?_
          refine g_goto C (tgt := 42) (dk kX8_runCommands 55 rfl) (by decide) ?_
          exact g_sub [2, 0, 1] rfl (ih μ15 x19 0 y h he)
        · replace h := ite_f h c17
          refine g_aload_n C (i := 0) 0 rfl rfl (dk kX8_runCommands 37 rfl) ?_
          obtain ⟨q20, eq20, h⟩ := bd_inv h
          obtain ⟨x22, ex22, h⟩ := lt_inv h
          obtain ⟨μ21, eμ21, h⟩ := lt_inv h
          rw [show q20 = (x22, μ21) from by rw [ex22, eμ21]] at eq20
          refine g_callV C E (rest := []) 0 (ct_X8_does k0 eq20) wd_6_68 mm_X8_does ⟨rfl, by decide, by decide, by decide⟩ rfl (by decide) k0 (by decide) rfl rfl (Nat.le_of_ble_eq_true rfl) (by decide) (dk kX8_runCommands 38 rfl) ?_
          refine g_if_lt C (tgt := 82) (dk kX8_runCommands 39 rfl) (by decide) (fun c23 => ?_) (fun c23 => ?_)
          · replace h := ite_t h c23
            refine g_iconst C (v := 0) (by decide) (dk kX8_runCommands 45 rfl) ?_
            refine g_istore_n C (i := 3) (lv' := [(3, .int 0), (0, .ref (za Z v0)), (2, .int v2)]) (dk kX8_runCommands 46 rfl) rfl (by decide) rfl ?_
            refine g_iload_n C (i := 2) 2 rfl rfl (dk kX8_runCommands 47 rfl) ?_
            refine g_iload_n C (i := 3) 0 rfl rfl (dk kX8_runCommands 48 rfl) ?_
            refine g_if_eq C (tgt := 93) (dk kX8_runCommands 49 rfl) (by decide) (fun c24 => ?_) (fun c => absurd c (by decide))
            refine g_iconst C (v := 0) (by decide) (dk kX8_runCommands 52 rfl) ?_
            refine g_iadd C (dk kX8_runCommands 53 rfl) ?_
            obtain ⟨x25, ex25, h⟩ := lt_inv h
            refine g_nmi ex25 ?_
            refine g_istore_n C (i := 2) (lv' := [(2, .int x25), (3, .int 0), (0, .ref (za Z v0))]) (dk kX8_runCommands 54 rfl) rfl (by decide) rfl ?_
            refine g_goto C (tgt := 42) (dk kX8_runCommands 55 rfl) (by decide) ?_
            exact g_sub [2, 0, 1] rfl (ih μ21 x25 0 y h he)
          · replace h := ite_f h c23
            refine g_aload_n C (i := 0) 0 rfl rfl (dk kX8_runCommands 40 rfl) ?_
            refine gI_6_7 C k0 (C.w wd_5_10) (dk kX8_runCommands 41 rfl) ?_
            obtain ⟨x26, ex26, h⟩ := lt_inv h
            have kj27 : G Z X 4 0 0 83 [(0, .ref (za Z v0)), (2, .int v2), (3, .int v3)] [.int x26] μ21 := by
              refine g_istore_n C (i := 3) (lv' := [(3, .int x26), (0, .ref (za Z v0)), (2, .int v2)]) (dk kX8_runCommands 46 rfl) rfl (by decide) rfl ?_
              refine g_iload_n C (i := 2) 2 rfl rfl (dk kX8_runCommands 47 rfl) ?_
              refine g_iload_n C (i := 3) 0 rfl rfl (dk kX8_runCommands 48 rfl) ?_
              obtain ⟨x28, ex28, h⟩ := lt_inv h
              have kj29 : G Z X 4 0 0 94 [(3, .int x26), (0, .ref (za Z v0)), (2, .int v2)] [.int x28, .int v2] μ21 := by
                refine g_iadd C (dk kX8_runCommands 53 rfl) ?_
                obtain ⟨x30, ex30, h⟩ := lt_inv h
                refine g_nmi ex30 ?_
                refine g_istore_n C (i := 2) (lv' := [(2, .int x30), (3, .int x26), (0, .ref (za Z v0))]) (dk kX8_runCommands 54 rfl) rfl (by decide) rfl ?_
                refine g_goto C (tgt := 42) (dk kX8_runCommands 55 rfl) (by decide) ?_
                exact g_sub [2, 0, 1] rfl (ih μ21 x30 x26 y h he)
              clear h
              refine g_if_eq C (tgt := 93) (dk kX8_runCommands 49 rfl) (by decide) (fun c31 => ?_) (fun c31 => ?_)
              · refine g_iconst C (v := 0) (by decide) (dk kX8_runCommands 52 rfl) ?_
                exact g_nmi (by rw [ex28, if_pos c31]) kj29
              · refine g_iconst C (v := 1) (by decide) (dk kX8_runCommands 50 rfl) ?_
                refine g_goto C (tgt := 94) (dk kX8_runCommands 51 rfl) (by decide) ?_
                exact g_nmi (by rw [ex28, if_neg c31]) kj29
            clear h
            refine g_if_ne C (tgt := 82) (dk kX8_runCommands 42 rfl) (by decide) (fun c32 => ?_) (fun c32 => ?_)
            · refine g_iconst C (v := 0) (by decide) (dk kX8_runCommands 45 rfl) ?_
              exact g_nmi (by rw [ex26, if_neg c32]) kj27
            · refine g_iconst C (v := 1) (by decide) (dk kX8_runCommands 43 rfl) ?_
              refine g_goto C (tgt := 83) (dk kX8_runCommands 44 rfl) (by decide) ?_
              exact g_nmi (by rw [ex26, if_pos c32]) kj27
set_option maxRecDepth 100000 in
set_option maxHeartbeats 4000000 in
theorem t_X8_runCommands {l : Launch} {Z : ZZ} {X : XX} (μ : Mm) (a0 : Nat) (r : Int32) (μ' : Mm) (k0 : (zk Z a0).1 = 6) (h : f_X8_runCommands (zk Z) μ a0 = some (r, μ')) (C : Cx l Z false X cX8_runCommands RX8 4 (some .int)) (E : Ex Z X 7 0 0 (some (.int r)) Z μ') : G Z X 4 0 0 0 [(0, .ref (za Z a0))] [] μ := by
  unfold f_X8_runCommands at h
  refine g_aload_n C (i := 0) 0 rfl rfl (dk kX8_runCommands 0 rfl) ?_
  refine g_iconst C (v := 0) (by decide) (dk kX8_runCommands 1 rfl) ?_
  obtain ⟨μ1, eμ1, h⟩ := lt_inv h
  refine pI_6_7 C k0 (C.w wd_5_10) eμ1 (dk kX8_runCommands 2 rfl) ?_
  refine g_aload_n C (i := 0) 0 rfl rfl (dk kX8_runCommands 3 rfl) ?_
  obtain ⟨q2, eq2, h⟩ := bd_inv h
  obtain ⟨x4, ex4, h⟩ := lt_inv h
  obtain ⟨μ3, eμ3, h⟩ := lt_inv h
  rw [show q2 = (x4, μ3) from by rw [ex4, eμ3]] at eq2
  refine g_callV C E.2 (rest := []) 0 (ct_X8_fault k0 eq2) wd_6_33 mm_X8_fault ⟨rfl, by decide, by decide, by decide⟩ rfl (by decide) k0 (by decide) rfl rfl (Nat.le_of_ble_eq_true rfl) (by decide) (dk kX8_runCommands 4 rfl) ?_
  refine g_istore_n C (i := 1) (lv' := [(1, .int x4), (0, .ref (za Z a0))]) (dk kX8_runCommands 5 rfl) rfl (by decide) rfl ?_
  refine g_iload_n C (i := 1) 0 rfl rfl (dk kX8_runCommands 6 rfl) ?_
  refine g_iconst C (v := (-1)) (by decide) (dk kX8_runCommands 7 rfl) ?_
  refine g_icmp_eq C (tgt := 20) (dk kX8_runCommands 8 rfl) (by decide) (fun c5 => ?_) (fun c5 => ?_)
  · replace h := ite_t h c5
    refine g_aload_n C (i := 0) 1 rfl rfl (dk kX8_runCommands 13 rfl) ?_
    obtain ⟨μ7, eq6, h⟩ := bd_inv h
    refine g_callV C E.2 (rest := []) 0 (ct_X8_saves k0 eq6) wd_5_52 mm_X8_saves ⟨rfl, by decide, by decide, by decide⟩ rfl (by decide) k0 (by decide) rfl rfl (Nat.le_of_ble_eq_true rfl) (by decide) (dk kX8_runCommands 14 rfl) ?_
    refine g_aload_n C (i := 0) 1 rfl rfl (dk kX8_runCommands 15 rfl) ?_
    refine g_iconst C (v := 1) (by decide) (dk kX8_runCommands 16 rfl) ?_
    obtain ⟨μ8, eμ8, h⟩ := lt_inv h
    refine pI_6_4 C k0 (by decide) (C.w wd_5_7) eμ8 (dk kX8_runCommands 17 rfl) ?_
    refine g_iconst C (v := 0) (by decide) (dk kX8_runCommands 18 rfl) ?_
    refine g_istore_n C (i := 2) (lv' := [(2, .int 0), (1, .int x4), (0, .ref (za Z a0))]) (dk kX8_runCommands 19 rfl) rfl (by decide) rfl ?_
    refine g_iconst C (v := 1) (by decide) (dk kX8_runCommands 20 rfl) ?_
    refine g_istore_n C (i := 3) (lv' := [(3, .int 1), (2, .int 0), (1, .int x4), (0, .ref (za Z a0))]) (dk kX8_runCommands 21 rfl) rfl (by decide) rfl ?_
    refine g_aload_n C (i := 0) 3 rfl rfl (dk kX8_runCommands 22 rfl) ?_
    refine g_iconst C (v := 0) (by decide) (dk kX8_runCommands 23 rfl) ?_
    obtain ⟨μ9, eμ9, h⟩ := lt_inv h
    refine pI_6_8 C k0 (C.w wd_5_11) eμ9 (dk kX8_runCommands 24 rfl) ?_
    refine g_aload_n C (i := 0) 3 rfl rfl (dk kX8_runCommands 25 rfl) ?_
    obtain ⟨μ11, eq10, h⟩ := bd_inv h
    refine g_callV C E.2 (rest := []) 0 (ct_X8_skips k0 eq10) wd_6_37 mm_X8_skips ⟨rfl, by decide, by decide, by decide⟩ rfl (by decide) k0 (by decide) rfl rfl (Nat.le_of_ble_eq_true rfl) (by decide) (dk kX8_runCommands 26 rfl) ?_
    obtain ⟨q33, eq33, h⟩ := bd_inv h
    refine g_sub [3, 1, 0] (lv' := [(0, .ref (za Z a0)), (2, .int 0), (3, .int 1)]) rfl ?_
    refine gl_X8_runCommands_42 a0 k0 C E.2 FU μ11 0 1 _ eq33 ?_
    obtain ⟨x34, ex34, h⟩ := lt_inv h
    obtain ⟨μ35, eμ35, h⟩ := lt_inv h
    rw [← ex34, ← eμ35]
    refine g_aload_n C (i := 0) 0 rfl rfl (dk kX8_runCommands 56 rfl) ?_
    refine g_iconst C (v := 0) (by decide) (dk kX8_runCommands 57 rfl) ?_
    obtain ⟨μ36, eμ36, h⟩ := lt_inv h
    refine pI_6_4 C k0 (by decide) (C.w wd_5_7) eμ36 (dk kX8_runCommands 58 rfl) ?_
    refine g_aload_n C (i := 0) 0 rfl rfl (dk kX8_runCommands 59 rfl) ?_
    refine g_iconst C (v := 0) (by decide) (dk kX8_runCommands 60 rfl) ?_
    obtain ⟨μ37, eμ37, h⟩ := lt_inv h
    refine pI_6_7 C k0 (C.w wd_5_10) eμ37 (dk kX8_runCommands 61 rfl) ?_
    refine g_iload_n C (i := 2) 1 rfl rfl (dk kX8_runCommands 62 rfl) ?_
    obtain ⟨h8, h9⟩ := Prod.mk.inj (Option.some.inj h)
    subst h8
    subst h9
    exact g_iret C E rfl rfl (Nat.le_refl 0) (Nat.le_refl 0) (dk kX8_runCommands 63 rfl)
  · replace h := ite_f h c5
    refine g_bipush C (v := (-10)) (by decide) (dk kX8_runCommands 9 rfl) ?_
    refine g_iload_n C (i := 1) 0 rfl rfl (dk kX8_runCommands 10 rfl) ?_
    refine g_isub C (dk kX8_runCommands 11 rfl) ?_
    obtain ⟨h8, h9⟩ := Prod.mk.inj (Option.some.inj h)
    subst h8
    subst h9
    exact g_iret C E rfl rfl (Nat.le_refl 0) (Nat.le_refl 0) (dk kX8_runCommands 12 rfl)
theorem ct_X8_runCommands {l : Launch} {Z : ZZ} {μ : Mm} {a0 : Nat} {r : Int32} {μ' : Mm} (k0 : (zk Z a0).1 = 6) (h : f_X8_runCommands (zk Z) μ a0 = some (r, μ')) : CtM l Z false yX8_runCommands cX8_runCommands 4 (some .int) 7 0 0 [.ref (za Z a0)] μ (some (.int r)) Z μ' := ct_of rfl rfl (Nat.le_of_ble_eq_true rfl) (fun X C E => t_X8_runCommands μ a0 r μ' k0 h C E)

def qX8_thrown : List (Nat × Instr × Nat) := [(0, .aload_n 0, 1), (1, .getfield 25, 3), (4, .ireturn, 1)]
theorem kX8_thrown : ∀ q ∈ qX8_thrown, decode cX8_thrown q.1 = .ok q.2 := by decide +kernel
def f_X8_thrown (K : Nat → Nat × Nat) (μ : Mm) (a0 : Nat) : Option (Int32) :=
  some (μ.1 a0 7)
set_option maxRecDepth 100000 in
set_option maxHeartbeats 4000000 in
theorem t_X8_thrown {l : Launch} {Z : ZZ} {X : XX} (μ : Mm) (a0 : Nat) (r : Int32) (k0 : (zk Z a0).1 = 6) (h : f_X8_thrown (zk Z) μ a0 = some r) (C : Cx l Z false X cX8_thrown RX8 1 (some .int)) (E : Ex Z X 0 0 0 (some (.int r)) Z μ) : G Z X 1 0 0 0 [(0, .ref (za Z a0))] [] μ := by
  unfold f_X8_thrown at h
  refine g_aload_n C (i := 0) 0 rfl rfl (dk kX8_thrown 0 rfl) ?_
  refine gI_6_7 C k0 (C.w wd_5_10) (dk kX8_thrown 1 rfl) ?_
  have h9 := Option.some.inj h
  subst h9
  exact g_iret C E rfl rfl (Nat.le_refl 0) (Nat.le_refl 0) (dk kX8_thrown 2 rfl)
theorem ct_X8_thrown {l : Launch} {Z : ZZ} {μ : Mm} {a0 : Nat} {r : Int32} (k0 : (zk Z a0).1 = 6) (h : f_X8_thrown (zk Z) μ a0 = some r) : CtM l Z false yX8_thrown cX8_thrown 1 (some .int) 0 0 0 [.ref (za Z a0)] μ (some (.int r)) Z μ := ct_of rfl rfl (Nat.le_of_ble_eq_true rfl) (fun X C E => t_X8_thrown μ a0 r k0 h C E)

def qX8_type : List (Nat × Instr × Nat) := [(0, .aload_n 0, 1), (1, .iload_n 1, 1), (2, .iconst 0, 1), (3, .bipush 127, 2), (5, .invokestatic 36, 3), (8, .ifCond .ne 7, 3), (11, .iconst 1, 1), (12, .goto 18, 3), (15, .aload_n 0, 1), (16, .getfield 146, 3), (19, .sipush 150, 3), (22, .if_icmp .ne 7, 3), (25, .iconst 2, 1), (26, .goto 4, 3), (29, .iconst 0, 1), (30, .invokevirtual 44, 3), (33, .ifCond .eq 5, 3), (36, .iconst 0, 1), (37, .ireturn, 1), (38, .aload_n 0, 1), (39, .getfield 19, 3), (42, .aload_n 0, 1), (43, .getfield 146, 3), (46, .iload_n 1, 1), (47, .iastore, 1), (48, .aload_n 0, 1), (49, .dup, 1), (50, .getfield 146, 3), (53, .iconst 1, 1), (54, .iadd, 1), (55, .putfield 146, 3), (58, .aload_n 0, 1), (59, .getfield 146, 3), (62, .ireturn, 1)]
theorem kX8_type : ∀ q ∈ qX8_type, decode cX8_type q.1 = .ok q.2 := by decide +kernel
def f_X8_type (K : Nat → Nat × Nat) (μ : Mm) (a0 : Nat) (a1 : Int32) : Option (Int32 × Mm) :=
  bd (f_X8_in a1 0 127) fun x2 => if x2 = 0 then (bd (f_X8_throwsAt K μ a0 1) fun q15 => lt1 q15.1 fun x17 => lt1 q15.2 fun μ16 => if x17 = 0 then (bd (rf K μ16 a0 5 8) fun b19 => gd (inb (μ16.1 a0 6) (K b19).2) <| lt1 (sI μ16 b19 (ix (μ16.1 a0 6)) a1) fun μ21 => lt1 (sI μ21 a0 6 ((μ21.1 a0 6) + 1)) fun μ22 => some ((μ22.1 a0 6), μ22)) else (some (0, μ16))) else (lt1 (α := Int32) (if (μ.1 a0 6) = 150 then 2 else 0) fun x4 => bd (f_X8_throwsAt K μ a0 x4) fun q6 => lt1 q6.1 fun x8 => lt1 q6.2 fun μ7 => if x8 = 0 then (bd (rf K μ7 a0 5 8) fun b10 => gd (inb (μ7.1 a0 6) (K b10).2) <| lt1 (sI μ7 b10 (ix (μ7.1 a0 6)) a1) fun μ12 => lt1 (sI μ12 a0 6 ((μ12.1 a0 6) + 1)) fun μ13 => some ((μ13.1 a0 6), μ13)) else (some (0, μ7)))
set_option maxRecDepth 100000 in
set_option maxHeartbeats 4000000 in
theorem t_X8_type {l : Launch} {Z : ZZ} {X : XX} (μ : Mm) (a0 : Nat) (a1 : Int32) (r : Int32) (μ' : Mm) (k0 : (zk Z a0).1 = 6) (h : f_X8_type (zk Z) μ a0 a1 = some (r, μ')) (C : Cx l Z false X cX8_type RX8 2 (some .int)) (E : Ex Z X 1 0 0 (some (.int r)) Z μ') : G Z X 2 0 0 0 [(0, .ref (za Z a0)), (1, .int a1)] [] μ := by
  unfold f_X8_type at h
  refine g_aload_n C (i := 0) 0 rfl rfl (dk kX8_type 0 rfl) ?_
  refine g_iload_n C (i := 1) 1 rfl rfl (dk kX8_type 1 rfl) ?_
  refine g_iconst C (v := 0) (by decide) (dk kX8_type 2 rfl) ?_
  refine g_bipush C (v := 127) (by decide) (dk kX8_type 3 rfl) ?_
  obtain ⟨x2, eq1, h⟩ := bd_inv h
  refine g_callS C E.2 (rest := [.ref (za Z a0)]) 3 (ct_X8_in  eq1) wd_5_45 mm_X8_in ⟨by decide, by decide, by decide⟩ rfl (by decide) rfl (Nat.le_of_ble_eq_true rfl) (by decide) (dk kX8_type 4 rfl) ?_
  refine g_if_ne C (tgt := 15) (dk kX8_type 5 rfl) (by decide) (fun c3 => ?_) (fun c3 => ?_)
  · replace h := ite_f h c3
    refine g_aload_n C (i := 0) 0 rfl rfl (dk kX8_type 8 rfl) ?_
    refine gI_6_6 C k0 (C.w wd_5_9) (dk kX8_type 9 rfl) ?_
    refine g_sipush C (v := 150) (by decide) (dk kX8_type 10 rfl) ?_
    obtain ⟨x4, ex4, h⟩ := lt_inv h
    have kj5 : G Z X 2 0 0 30 [(0, .ref (za Z a0)), (1, .int a1)] [.int x4, .ref (za Z a0)] μ := by
      obtain ⟨q6, eq6, h⟩ := bd_inv h
      obtain ⟨x8, ex8, h⟩ := lt_inv h
      obtain ⟨μ7, eμ7, h⟩ := lt_inv h
      rw [show q6 = (x8, μ7) from by rw [ex8, eμ7]] at eq6
      refine g_callV C E.2 (rest := []) 1 (ct_X8_throwsAt k0 eq6) wd_5_48 mm_X8_throwsAt ⟨rfl, by decide, by decide, by decide⟩ rfl (by decide) k0 (by decide) rfl rfl (Nat.le_of_ble_eq_true rfl) (by decide) (dk kX8_type 15 rfl) ?_
      refine g_if_eq C (tgt := 38) (dk kX8_type 16 rfl) (by decide) (fun c9 => ?_) (fun c9 => ?_)
      · replace h := ite_t h c9
        refine g_aload_n C (i := 0) 0 rfl rfl (dk kX8_type 19 rfl) ?_
        obtain ⟨b10, eb10, h⟩ := bd_inv h
        obtain ⟨rb10, kb10⟩ := rf_inv eb10
        refine gR_6_5 C k0 (C.w wd_5_8) rb10 (dk kX8_type 20 rfl) ?_
        refine g_aload_n C (i := 0) 0 rfl rfl (dk kX8_type 21 rfl) ?_
        refine gI_6_6 C k0 (C.w wd_5_9) (dk kX8_type 22 rfl) ?_
        refine g_iload_n C (i := 1) 1 rfl rfl (dk kX8_type 23 rfl) ?_
        obtain ⟨c11, h⟩ := gd_inv h
        obtain ⟨μ12, eμ12, h⟩ := lt_inv h
        refine g_iast C kb10 c11 eμ12 (dk kX8_type 24 rfl) ?_
        refine g_aload_n C (i := 0) 0 rfl rfl (dk kX8_type 25 rfl) ?_
        refine g_dup C rfl (dk kX8_type 26 rfl) ?_
        refine gI_6_6 C k0 (C.w wd_5_9) (dk kX8_type 27 rfl) ?_
        refine g_iconst C (v := 1) (by decide) (dk kX8_type 28 rfl) ?_
        refine g_iadd C (dk kX8_type 29 rfl) ?_
        obtain ⟨μ13, eμ13, h⟩ := lt_inv h
        refine pI_6_6 C k0 (C.w wd_5_9) eμ13 (dk kX8_type 30 rfl) ?_
        refine g_aload_n C (i := 0) 0 rfl rfl (dk kX8_type 31 rfl) ?_
        refine gI_6_6 C k0 (C.w wd_5_9) (dk kX8_type 32 rfl) ?_
        obtain ⟨h8, h9⟩ := Prod.mk.inj (Option.some.inj h)
        subst h8
        subst h9
        exact g_iret C E rfl rfl (Nat.le_refl 0) (Nat.le_refl 0) (dk kX8_type 33 rfl)
      · replace h := ite_f h c9
        refine g_iconst C (v := 0) (by decide) (dk kX8_type 17 rfl) ?_
        obtain ⟨h8, h9⟩ := Prod.mk.inj (Option.some.inj h)
        subst h8
        subst h9
        exact g_iret C E rfl rfl (Nat.le_refl 0) (Nat.le_refl 0) (dk kX8_type 18 rfl)
    clear h
    refine g_icmp_ne C (tgt := 29) (dk kX8_type 11 rfl) (by decide) (fun c14 => ?_) (fun c14 => ?_)
    · refine g_iconst C (v := 0) (by decide) (dk kX8_type 14 rfl) ?_
      exact g_nmi (by rw [ex4, if_neg c14]) kj5
    · refine g_iconst C (v := 2) (by decide) (dk kX8_type 12 rfl) ?_
      refine g_goto C (tgt := 30) (dk kX8_type 13 rfl) (by decide) ?_
      exact g_nmi (by rw [ex4, if_pos c14]) kj5
  · replace h := ite_t h c3
    refine g_iconst C (v := 1) (by decide) (dk kX8_type 6 rfl) ?_
    refine g_goto C (tgt := 30) (dk kX8_type 7 rfl) (by decide) ?_
    obtain ⟨q15, eq15, h⟩ := bd_inv h
    obtain ⟨x17, ex17, h⟩ := lt_inv h
    obtain ⟨μ16, eμ16, h⟩ := lt_inv h
    rw [show q15 = (x17, μ16) from by rw [ex17, eμ16]] at eq15
    refine g_callV C E.2 (rest := []) 1 (ct_X8_throwsAt k0 eq15) wd_5_48 mm_X8_throwsAt ⟨rfl, by decide, by decide, by decide⟩ rfl (by decide) k0 (by decide) rfl rfl (Nat.le_of_ble_eq_true rfl) (by decide) (dk kX8_type 15 rfl) ?_
    refine g_if_eq C (tgt := 38) (dk kX8_type 16 rfl) (by decide) (fun c18 => ?_) (fun c18 => ?_)
    · replace h := ite_t h c18
      refine g_aload_n C (i := 0) 0 rfl rfl (dk kX8_type 19 rfl) ?_
      obtain ⟨b19, eb19, h⟩ := bd_inv h
      obtain ⟨rb19, kb19⟩ := rf_inv eb19
      refine gR_6_5 C k0 (C.w wd_5_8) rb19 (dk kX8_type 20 rfl) ?_
      refine g_aload_n C (i := 0) 0 rfl rfl (dk kX8_type 21 rfl) ?_
      refine gI_6_6 C k0 (C.w wd_5_9) (dk kX8_type 22 rfl) ?_
      refine g_iload_n C (i := 1) 1 rfl rfl (dk kX8_type 23 rfl) ?_
      obtain ⟨c20, h⟩ := gd_inv h
      obtain ⟨μ21, eμ21, h⟩ := lt_inv h
      refine g_iast C kb19 c20 eμ21 (dk kX8_type 24 rfl) ?_
      refine g_aload_n C (i := 0) 0 rfl rfl (dk kX8_type 25 rfl) ?_
      refine g_dup C rfl (dk kX8_type 26 rfl) ?_
      refine gI_6_6 C k0 (C.w wd_5_9) (dk kX8_type 27 rfl) ?_
      refine g_iconst C (v := 1) (by decide) (dk kX8_type 28 rfl) ?_
      refine g_iadd C (dk kX8_type 29 rfl) ?_
      obtain ⟨μ22, eμ22, h⟩ := lt_inv h
      refine pI_6_6 C k0 (C.w wd_5_9) eμ22 (dk kX8_type 30 rfl) ?_
      refine g_aload_n C (i := 0) 0 rfl rfl (dk kX8_type 31 rfl) ?_
      refine gI_6_6 C k0 (C.w wd_5_9) (dk kX8_type 32 rfl) ?_
      obtain ⟨h8, h9⟩ := Prod.mk.inj (Option.some.inj h)
      subst h8
      subst h9
      exact g_iret C E rfl rfl (Nat.le_refl 0) (Nat.le_refl 0) (dk kX8_type 33 rfl)
    · replace h := ite_f h c18
      refine g_iconst C (v := 0) (by decide) (dk kX8_type 17 rfl) ?_
      obtain ⟨h8, h9⟩ := Prod.mk.inj (Option.some.inj h)
      subst h8
      subst h9
      exact g_iret C E rfl rfl (Nat.le_refl 0) (Nat.le_refl 0) (dk kX8_type 18 rfl)
theorem ct_X8_type {l : Launch} {Z : ZZ} {μ : Mm} {a0 : Nat} {a1 : Int32} {r : Int32} {μ' : Mm} (k0 : (zk Z a0).1 = 6) (h : f_X8_type (zk Z) μ a0 a1 = some (r, μ')) : CtM l Z false yX8_type cX8_type 2 (some .int) 1 0 0 [.ref (za Z a0), .int a1] μ (some (.int r)) Z μ' := ct_of rfl rfl (Nat.le_of_ble_eq_true rfl) (fun X C E => t_X8_type μ a0 a1 r μ' k0 h C E)

def qX8_undo : List (Nat × Instr × Nat) := [(0, .aload_n 0, 1), (1, .aload_n 0, 1), (2, .getfield 33, 3), (5, .ifCond .ne 7, 3), (8, .iconst 1, 1), (9, .goto 4, 3), (12, .iconst 0, 1), (13, .invokevirtual 44, 3), (16, .ifCond .eq 5, 3), (19, .iconst 0, 1), (20, .ireturn, 1), (21, .aload_n 0, 1), (22, .dup, 1), (23, .getfield 33, 3), (26, .iconst 1, 1), (27, .isub, 1), (28, .putfield 33, 3), (31, .iconst 0, 1), (32, .istore_n 1, 1), (33, .iload_n 1, 1), (34, .sipush 182, 3), (37, .if_icmp .ge 30, 3), (40, .aload_n 0, 1), (41, .getfield 7, 3), (44, .iload_n 1, 1), (45, .aload_n 0, 1), (46, .getfield 16, 3), (49, .sipush 182, 3), (52, .aload_n 0, 1), (53, .getfield 33, 3), (56, .imul, 1), (57, .iload_n 1, 1), (58, .iadd, 1), (59, .iaload, 1), (60, .iastore, 1), (61, .iinc 1 1, 3), (64, .goto (-31), 3), (67, .aload_n 0, 1), (68, .getfield 33, 3), (71, .ireturn, 1)]
theorem kX8_undo : ∀ q ∈ qX8_undo, decode cX8_undo q.1 = .ok q.2 := by decide +kernel
def f_X8_undo_l33 (K : Nat → Nat × Nat) (v0 : Nat) : Nat → Mm → Int32 → Option (Mm)
  | 0, _, _ => none
  | n + 1, μ, v1 => if 182 ≤ v1 then (some μ) else (bd (rf K μ v0 0 8) fun b9 => bd (rf K μ v0 2 8) fun b10 => gd (inb ((182 * (μ.1 v0 3)) + v1) (K b10).2) <| gd (inb v1 (K b9).2) <| lt1 (sI μ b9 (ix v1) (μ.1 b10 (ix ((182 * (μ.1 v0 3)) + v1)))) fun μ13 => lt1 (α := Int32) (v1 + 1) fun x14 => f_X8_undo_l33 K v0 n μ13 x14)
def f_X8_undo (K : Nat → Nat × Nat) (μ : Mm) (a0 : Nat) : Option (Int32 × Mm) :=
  lt1 (α := Int32) (if (μ.1 a0 3) = 0 then 1 else 0) fun x1 => bd (f_X8_throwsAt K μ a0 x1) fun q3 => lt1 q3.1 fun x5 => lt1 q3.2 fun μ4 => if x5 = 0 then (lt1 (sI μ4 a0 3 ((μ4.1 a0 3) - 1)) fun μ7 => bd (f_X8_undo_l33 K a0 FU μ7 0) fun q15 => lt1 q15 fun μ16 => some ((μ16.1 a0 3), μ16)) else (some (0, μ4))
set_option maxRecDepth 100000 in
set_option maxHeartbeats 4000000 in
theorem gl_X8_undo_33 {l : Launch} {Z : ZZ} {X : XX} (v0 : Nat) (k0 : (zk Z v0).1 = 6) (C : Cx l Z false X cX8_undo RX8 2 (some .int)) (E : xR X = rmm 1 0 0) : ∀ (n : Nat) (μ : Mm) (v1 : Int32) (y : Mm), f_X8_undo_l33 (zk Z) v0 n μ v1 = some y → G Z X 2 0 0 67 [(0, .ref (za Z v0))] [] y → G Z X 2 0 0 33 [(0, .ref (za Z v0)), (1, .int v1)] [] μ := by
  intro n
  induction n with
  | zero => intro μ v1 y h he; unfold f_X8_undo_l33 at h; cases h
  | succ n ih =>
    intro μ v1 y h he
    unfold f_X8_undo_l33 at h
    refine g_iload_n C (i := 1) 1 rfl rfl (dk kX8_undo 19 rfl) ?_
    refine g_sipush C (v := 182) (by decide) (dk kX8_undo 20 rfl) ?_
    refine g_icmp_ge C (tgt := 67) (dk kX8_undo 21 rfl) (by decide) (fun c8 => ?_) (fun c8 => ?_)
    · replace h := ite_t h c8
      cases h
      exact g_sub [0] rfl he
    · replace h := ite_f h c8
      refine g_aload_n C (i := 0) 0 rfl rfl (dk kX8_undo 22 rfl) ?_
      obtain ⟨b9, eb9, h⟩ := bd_inv h
      obtain ⟨rb9, kb9⟩ := rf_inv eb9
      refine gR_6_0 C k0 (C.w wd_5_3) rb9 (dk kX8_undo 23 rfl) ?_
      refine g_iload_n C (i := 1) 1 rfl rfl (dk kX8_undo 24 rfl) ?_
      refine g_aload_n C (i := 0) 0 rfl rfl (dk kX8_undo 25 rfl) ?_
      obtain ⟨b10, eb10, h⟩ := bd_inv h
      obtain ⟨rb10, kb10⟩ := rf_inv eb10
      refine gR_6_2 C k0 (C.w wd_5_5) rb10 (dk kX8_undo 26 rfl) ?_
      refine g_sipush C (v := 182) (by decide) (dk kX8_undo 27 rfl) ?_
      refine g_aload_n C (i := 0) 0 rfl rfl (dk kX8_undo 28 rfl) ?_
      refine gI_6_3 C k0 (C.w wd_5_6) (dk kX8_undo 29 rfl) ?_
      refine g_imul C (dk kX8_undo 30 rfl) ?_
      refine g_iload_n C (i := 1) 1 rfl rfl (dk kX8_undo 31 rfl) ?_
      refine g_iadd C (dk kX8_undo 32 rfl) ?_
      obtain ⟨c11, h⟩ := gd_inv h
      refine g_iald C kb10 c11 (dk kX8_undo 33 rfl) ?_
      obtain ⟨c12, h⟩ := gd_inv h
      obtain ⟨μ13, eμ13, h⟩ := lt_inv h
      refine g_iast C kb9 c12 eμ13 (dk kX8_undo 34 rfl) ?_
      obtain ⟨x14, ex14, h⟩ := lt_inv h
      refine g_iinc C (i := 1) (v := x14) (lv' := [(1, .int x14), (0, .ref (za Z v0))]) 1 (dk kX8_undo 35 rfl) rfl (by rw [ex14]; rfl) (by decide) rfl ?_
      refine g_goto C (tgt := 33) (dk kX8_undo 36 rfl) (by decide) ?_
      exact g_sub [1, 0] rfl (ih μ13 x14 y h he)
set_option maxRecDepth 100000 in
set_option maxHeartbeats 4000000 in
theorem t_X8_undo {l : Launch} {Z : ZZ} {X : XX} (μ : Mm) (a0 : Nat) (r : Int32) (μ' : Mm) (k0 : (zk Z a0).1 = 6) (h : f_X8_undo (zk Z) μ a0 = some (r, μ')) (C : Cx l Z false X cX8_undo RX8 2 (some .int)) (E : Ex Z X 1 0 0 (some (.int r)) Z μ') : G Z X 2 0 0 0 [(0, .ref (za Z a0))] [] μ := by
  unfold f_X8_undo at h
  refine g_aload_n C (i := 0) 0 rfl rfl (dk kX8_undo 0 rfl) ?_
  refine g_aload_n C (i := 0) 0 rfl rfl (dk kX8_undo 1 rfl) ?_
  refine gI_6_3 C k0 (C.w wd_5_6) (dk kX8_undo 2 rfl) ?_
  obtain ⟨x1, ex1, h⟩ := lt_inv h
  have kj2 : G Z X 2 0 0 13 [(0, .ref (za Z a0))] [.int x1, .ref (za Z a0)] μ := by
    obtain ⟨q3, eq3, h⟩ := bd_inv h
    obtain ⟨x5, ex5, h⟩ := lt_inv h
    obtain ⟨μ4, eμ4, h⟩ := lt_inv h
    rw [show q3 = (x5, μ4) from by rw [ex5, eμ4]] at eq3
    refine g_callV C E.2 (rest := []) 1 (ct_X8_throwsAt k0 eq3) wd_5_48 mm_X8_throwsAt ⟨rfl, by decide, by decide, by decide⟩ rfl (by decide) k0 (by decide) rfl rfl (Nat.le_of_ble_eq_true rfl) (by decide) (dk kX8_undo 7 rfl) ?_
    refine g_if_eq C (tgt := 21) (dk kX8_undo 8 rfl) (by decide) (fun c6 => ?_) (fun c6 => ?_)
    · replace h := ite_t h c6
      refine g_aload_n C (i := 0) 0 rfl rfl (dk kX8_undo 11 rfl) ?_
      refine g_dup C rfl (dk kX8_undo 12 rfl) ?_
      refine gI_6_3 C k0 (C.w wd_5_6) (dk kX8_undo 13 rfl) ?_
      refine g_iconst C (v := 1) (by decide) (dk kX8_undo 14 rfl) ?_
      refine g_isub C (dk kX8_undo 15 rfl) ?_
      obtain ⟨μ7, eμ7, h⟩ := lt_inv h
      refine pI_6_3 C k0 (C.w wd_5_6) eμ7 (dk kX8_undo 16 rfl) ?_
      refine g_iconst C (v := 0) (by decide) (dk kX8_undo 17 rfl) ?_
      refine g_istore_n C (i := 1) (lv' := [(1, .int 0), (0, .ref (za Z a0))]) (dk kX8_undo 18 rfl) rfl (by decide) rfl ?_
      obtain ⟨q15, eq15, h⟩ := bd_inv h
      refine g_sub [1, 0] (lv' := [(0, .ref (za Z a0)), (1, .int 0)]) rfl ?_
      refine gl_X8_undo_33 a0 k0 C E.2 FU μ7 0 _ eq15 ?_
      obtain ⟨μ16, eμ16, h⟩ := lt_inv h
      rw [← eμ16]
      refine g_aload_n C (i := 0) 0 rfl rfl (dk kX8_undo 37 rfl) ?_
      refine gI_6_3 C k0 (C.w wd_5_6) (dk kX8_undo 38 rfl) ?_
      obtain ⟨h8, h9⟩ := Prod.mk.inj (Option.some.inj h)
      subst h8
      subst h9
      exact g_iret C E rfl rfl (Nat.le_refl 0) (Nat.le_refl 0) (dk kX8_undo 39 rfl)
    · replace h := ite_f h c6
      refine g_iconst C (v := 0) (by decide) (dk kX8_undo 9 rfl) ?_
      obtain ⟨h8, h9⟩ := Prod.mk.inj (Option.some.inj h)
      subst h8
      subst h9
      exact g_iret C E rfl rfl (Nat.le_refl 0) (Nat.le_refl 0) (dk kX8_undo 10 rfl)
  clear h
  refine g_if_ne C (tgt := 12) (dk kX8_undo 3 rfl) (by decide) (fun c17 => ?_) (fun c17 => ?_)
  · refine g_iconst C (v := 0) (by decide) (dk kX8_undo 6 rfl) ?_
    exact g_nmi (by rw [ex1, if_neg c17]) kj2
  · refine g_iconst C (v := 1) (by decide) (dk kX8_undo 4 rfl) ?_
    refine g_goto C (tgt := 13) (dk kX8_undo 5 rfl) (by decide) ?_
    exact g_nmi (by rw [ex1, if_pos c17]) kj2
theorem ct_X8_undo {l : Launch} {Z : ZZ} {μ : Mm} {a0 : Nat} {r : Int32} {μ' : Mm} (k0 : (zk Z a0).1 = 6) (h : f_X8_undo (zk Z) μ a0 = some (r, μ')) : CtM l Z false yX8_undo cX8_undo 2 (some .int) 1 0 0 [.ref (za Z a0)] μ (some (.int r)) Z μ' := ct_of rfl rfl (Nat.le_of_ble_eq_true rfl) (fun X C E => t_X8_undo μ a0 r μ' k0 h C E)

def qX8_unreadable : List (Nat × Instr × Nat) := [(0, .aload_n 0, 1), (1, .aload_n 0, 1), (2, .iload_n 1, 1), (3, .iload_n 2, 1), (4, .iload_n 3, 1), (5, .invokevirtual 125, 3), (8, .invokevirtual 44, 3), (11, .ifCond .eq 5, 3), (14, .iconst 0, 1), (15, .ireturn, 1), (16, .aload_n 0, 1), (17, .iload_n 1, 1), (18, .iload_n 2, 1), (19, .iload_n 3, 1), (20, .invokevirtual 115, 3), (23, .ifCond .le 7, 3), (26, .iconst (-1), 1), (27, .goto 9, 3), (30, .aload_n 0, 1), (31, .iload_n 2, 1), (32, .iload_n 3, 1), (33, .invokevirtual 119, 3), (36, .ireturn, 1)]
theorem kX8_unreadable : ∀ q ∈ qX8_unreadable, decode cX8_unreadable q.1 = .ok q.2 := by decide +kernel
def f_X8_unreadable (K : Nat → Nat × Nat) (μ : Mm) (a0 : Nat) (a1 : Int32) (a2 : Int32) (a3 : Int32) : Option (Int32 × Mm) :=
  bd (f_X8_wrong K μ a0 a1 a2 a3) fun x2 => bd (f_X8_throwsAt K μ a0 x2) fun q3 => lt1 q3.1 fun x5 => lt1 q3.2 fun μ4 => if x5 = 0 then (bd (f_X8_whyNot K μ4 a0 a1 a2 a3) fun x8 => if x8 ≤ 0 then (bd (f_X8_badOf K μ4 a0 a2 a3) fun q10 => lt1 q10.1 fun x12 => lt1 q10.2 fun μ11 => some (x12, μ11)) else (some ((-1), μ4))) else (some (0, μ4))
set_option maxRecDepth 100000 in
set_option maxHeartbeats 4000000 in
theorem t_X8_unreadable {l : Launch} {Z : ZZ} {X : XX} (μ : Mm) (a0 : Nat) (a1 : Int32) (a2 : Int32) (a3 : Int32) (r : Int32) (μ' : Mm) (k0 : (zk Z a0).1 = 6) (h : f_X8_unreadable (zk Z) μ a0 a1 a2 a3 = some (r, μ')) (C : Cx l Z false X cX8_unreadable RX8 4 (some .int)) (E : Ex Z X 4 0 0 (some (.int r)) Z μ') : G Z X 4 0 0 0 [(0, .ref (za Z a0)), (1, .int a1), (2, .int a2), (3, .int a3)] [] μ := by
  unfold f_X8_unreadable at h
  refine g_aload_n C (i := 0) 0 rfl rfl (dk kX8_unreadable 0 rfl) ?_
  refine g_aload_n C (i := 0) 0 rfl rfl (dk kX8_unreadable 1 rfl) ?_
  refine g_iload_n C (i := 1) 1 rfl rfl (dk kX8_unreadable 2 rfl) ?_
  refine g_iload_n C (i := 2) 2 rfl rfl (dk kX8_unreadable 3 rfl) ?_
  refine g_iload_n C (i := 3) 3 rfl rfl (dk kX8_unreadable 4 rfl) ?_
  obtain ⟨x2, eq1, h⟩ := bd_inv h
  refine g_callV C E.2 (rest := [.ref (za Z a0)]) 3 (ct_X8_wrong k0 eq1) wd_5_144 mm_X8_wrong ⟨rfl, by decide, by decide, by decide⟩ rfl (by decide) k0 (by decide) rfl rfl (Nat.le_of_ble_eq_true rfl) (by decide) (dk kX8_unreadable 5 rfl) ?_
  obtain ⟨q3, eq3, h⟩ := bd_inv h
  obtain ⟨x5, ex5, h⟩ := lt_inv h
  obtain ⟨μ4, eμ4, h⟩ := lt_inv h
  rw [show q3 = (x5, μ4) from by rw [ex5, eμ4]] at eq3
  refine g_callV C E.2 (rest := []) 1 (ct_X8_throwsAt k0 eq3) wd_5_48 mm_X8_throwsAt ⟨rfl, by decide, by decide, by decide⟩ rfl (by decide) k0 (by decide) rfl rfl (Nat.le_of_ble_eq_true rfl) (by decide) (dk kX8_unreadable 6 rfl) ?_
  refine g_if_eq C (tgt := 16) (dk kX8_unreadable 7 rfl) (by decide) (fun c6 => ?_) (fun c6 => ?_)
  · replace h := ite_t h c6
    refine g_aload_n C (i := 0) 0 rfl rfl (dk kX8_unreadable 10 rfl) ?_
    refine g_iload_n C (i := 1) 1 rfl rfl (dk kX8_unreadable 11 rfl) ?_
    refine g_iload_n C (i := 2) 2 rfl rfl (dk kX8_unreadable 12 rfl) ?_
    refine g_iload_n C (i := 3) 3 rfl rfl (dk kX8_unreadable 13 rfl) ?_
    obtain ⟨x8, eq7, h⟩ := bd_inv h
    refine g_callV C E.2 (rest := []) 3 (ct_X8_whyNot k0 eq7) wd_5_148 mm_X8_whyNot ⟨rfl, by decide, by decide, by decide⟩ rfl (by decide) k0 (by decide) rfl rfl (Nat.le_of_ble_eq_true rfl) (by decide) (dk kX8_unreadable 14 rfl) ?_
    refine g_if_le C (tgt := 30) (dk kX8_unreadable 15 rfl) (by decide) (fun c9 => ?_) (fun c9 => ?_)
    · replace h := ite_t h c9
      refine g_aload_n C (i := 0) 0 rfl rfl (dk kX8_unreadable 18 rfl) ?_
      refine g_iload_n C (i := 2) 2 rfl rfl (dk kX8_unreadable 19 rfl) ?_
      refine g_iload_n C (i := 3) 3 rfl rfl (dk kX8_unreadable 20 rfl) ?_
      obtain ⟨q10, eq10, h⟩ := bd_inv h
      obtain ⟨x12, ex12, h⟩ := lt_inv h
      obtain ⟨μ11, eμ11, h⟩ := lt_inv h
      rw [show q10 = (x12, μ11) from by rw [ex12, eμ11]] at eq10
      refine g_callV C E.2 (rest := []) 2 (ct_X8_badOf k0 eq10) wd_5_185 mm_X8_badOf ⟨rfl, by decide, by decide, by decide⟩ rfl (by decide) k0 (by decide) rfl rfl (Nat.le_of_ble_eq_true rfl) (by decide) (dk kX8_unreadable 21 rfl) ?_
      obtain ⟨h8, h9⟩ := Prod.mk.inj (Option.some.inj h)
      subst h8
      subst h9
      exact g_iret C E rfl rfl (Nat.le_refl 0) (Nat.le_refl 0) (dk kX8_unreadable 22 rfl)
    · replace h := ite_f h c9
      refine g_iconst C (v := (-1)) (by decide) (dk kX8_unreadable 16 rfl) ?_
      refine g_goto C (tgt := 36) (dk kX8_unreadable 17 rfl) (by decide) ?_
      obtain ⟨h8, h9⟩ := Prod.mk.inj (Option.some.inj h)
      subst h8
      subst h9
      exact g_iret C E rfl rfl (Nat.le_refl 0) (Nat.le_refl 0) (dk kX8_unreadable 22 rfl)
  · replace h := ite_f h c6
    refine g_iconst C (v := 0) (by decide) (dk kX8_unreadable 8 rfl) ?_
    obtain ⟨h8, h9⟩ := Prod.mk.inj (Option.some.inj h)
    subst h8
    subst h9
    exact g_iret C E rfl rfl (Nat.le_refl 0) (Nat.le_refl 0) (dk kX8_unreadable 9 rfl)
theorem ct_X8_unreadable {l : Launch} {Z : ZZ} {μ : Mm} {a0 : Nat} {a1 : Int32} {a2 : Int32} {a3 : Int32} {r : Int32} {μ' : Mm} (k0 : (zk Z a0).1 = 6) (h : f_X8_unreadable (zk Z) μ a0 a1 a2 a3 = some (r, μ')) : CtM l Z false yX8_unreadable cX8_unreadable 4 (some .int) 4 0 0 [.ref (za Z a0), .int a1, .int a2, .int a3] μ (some (.int r)) Z μ' := ct_of rfl rfl (Nat.le_of_ble_eq_true rfl) (fun X C E => t_X8_unreadable μ a0 a1 a2 a3 r μ' k0 h C E)

def qX8_whole : List (Nat × Instr × Nat) := [(0, .aload_n 0, 1), (1, .iload_n 1, 1), (2, .iconst 0, 1), (3, .bipush 17, 2), (5, .invokestatic 36, 3), (8, .ifCond .eq 7, 3), (11, .iconst 0, 1), (12, .goto 4, 3), (15, .iconst 1, 1), (16, .invokevirtual 44, 3), (19, .ifCond .eq 7, 3), (22, .iconst 0, 1), (23, .goto 8, 3), (26, .aload_n 0, 1), (27, .iload_n 1, 1), (28, .invokevirtual 149, 3), (31, .ireturn, 1)]
theorem kX8_whole : ∀ q ∈ qX8_whole, decode cX8_whole q.1 = .ok q.2 := by decide +kernel
def f_X8_whole (K : Nat → Nat × Nat) (μ : Mm) (a0 : Nat) (a1 : Int32) : Option (Int32 × Mm) :=
  bd (f_X8_in a1 0 17) fun x2 => lt1 (α := Int32) (if x2 = 0 then 1 else 0) fun x3 => bd (f_X8_throwsAt K μ a0 x3) fun q5 => lt1 q5.1 fun x7 => lt1 q5.2 fun μ6 => if x7 = 0 then (bd (f_X8_wholeOf K μ6 a0 a1) fun x10 => some (x10, μ6)) else (some (0, μ6))
set_option maxRecDepth 100000 in
set_option maxHeartbeats 4000000 in
theorem t_X8_whole {l : Launch} {Z : ZZ} {X : XX} (μ : Mm) (a0 : Nat) (a1 : Int32) (r : Int32) (μ' : Mm) (k0 : (zk Z a0).1 = 6) (h : f_X8_whole (zk Z) μ a0 a1 = some (r, μ')) (C : Cx l Z false X cX8_whole RX8 2 (some .int)) (E : Ex Z X 4 0 0 (some (.int r)) Z μ') : G Z X 2 0 0 0 [(0, .ref (za Z a0)), (1, .int a1)] [] μ := by
  unfold f_X8_whole at h
  refine g_aload_n C (i := 0) 0 rfl rfl (dk kX8_whole 0 rfl) ?_
  refine g_iload_n C (i := 1) 1 rfl rfl (dk kX8_whole 1 rfl) ?_
  refine g_iconst C (v := 0) (by decide) (dk kX8_whole 2 rfl) ?_
  refine g_bipush C (v := 17) (by decide) (dk kX8_whole 3 rfl) ?_
  obtain ⟨x2, eq1, h⟩ := bd_inv h
  refine g_callS C E.2 (rest := [.ref (za Z a0)]) 3 (ct_X8_in  eq1) wd_5_45 mm_X8_in ⟨by decide, by decide, by decide⟩ rfl (by decide) rfl (Nat.le_of_ble_eq_true rfl) (by decide) (dk kX8_whole 4 rfl) ?_
  obtain ⟨x3, ex3, h⟩ := lt_inv h
  have kj4 : G Z X 2 0 0 16 [(0, .ref (za Z a0)), (1, .int a1)] [.int x3, .ref (za Z a0)] μ := by
    obtain ⟨q5, eq5, h⟩ := bd_inv h
    obtain ⟨x7, ex7, h⟩ := lt_inv h
    obtain ⟨μ6, eμ6, h⟩ := lt_inv h
    rw [show q5 = (x7, μ6) from by rw [ex7, eμ6]] at eq5
    refine g_callV C E.2 (rest := []) 1 (ct_X8_throwsAt k0 eq5) wd_5_48 mm_X8_throwsAt ⟨rfl, by decide, by decide, by decide⟩ rfl (by decide) k0 (by decide) rfl rfl (Nat.le_of_ble_eq_true rfl) (by decide) (dk kX8_whole 9 rfl) ?_
    refine g_if_eq C (tgt := 26) (dk kX8_whole 10 rfl) (by decide) (fun c8 => ?_) (fun c8 => ?_)
    · replace h := ite_t h c8
      refine g_aload_n C (i := 0) 0 rfl rfl (dk kX8_whole 13 rfl) ?_
      refine g_iload_n C (i := 1) 1 rfl rfl (dk kX8_whole 14 rfl) ?_
      obtain ⟨x10, eq9, h⟩ := bd_inv h
      refine g_callV C E.2 (rest := []) 1 (ct_X8_wholeOf k0 eq9) wd_5_225 mm_X8_wholeOf ⟨rfl, by decide, by decide, by decide⟩ rfl (by decide) k0 (by decide) rfl rfl (Nat.le_of_ble_eq_true rfl) (by decide) (dk kX8_whole 15 rfl) ?_
      obtain ⟨h8, h9⟩ := Prod.mk.inj (Option.some.inj h)
      subst h8
      subst h9
      exact g_iret C E rfl rfl (Nat.le_refl 0) (Nat.le_refl 0) (dk kX8_whole 16 rfl)
    · replace h := ite_f h c8
      refine g_iconst C (v := 0) (by decide) (dk kX8_whole 11 rfl) ?_
      refine g_goto C (tgt := 31) (dk kX8_whole 12 rfl) (by decide) ?_
      obtain ⟨h8, h9⟩ := Prod.mk.inj (Option.some.inj h)
      subst h8
      subst h9
      exact g_iret C E rfl rfl (Nat.le_refl 0) (Nat.le_refl 0) (dk kX8_whole 16 rfl)
  clear h
  refine g_if_eq C (tgt := 15) (dk kX8_whole 5 rfl) (by decide) (fun c11 => ?_) (fun c11 => ?_)
  · refine g_iconst C (v := 1) (by decide) (dk kX8_whole 8 rfl) ?_
    exact g_nmi (by rw [ex3, if_pos c11]) kj4
  · refine g_iconst C (v := 0) (by decide) (dk kX8_whole 6 rfl) ?_
    refine g_goto C (tgt := 16) (dk kX8_whole 7 rfl) (by decide) ?_
    exact g_nmi (by rw [ex3, if_neg c11]) kj4
theorem ct_X8_whole {l : Launch} {Z : ZZ} {μ : Mm} {a0 : Nat} {a1 : Int32} {r : Int32} {μ' : Mm} (k0 : (zk Z a0).1 = 6) (h : f_X8_whole (zk Z) μ a0 a1 = some (r, μ')) : CtM l Z false yX8_whole cX8_whole 2 (some .int) 4 0 0 [.ref (za Z a0), .int a1] μ (some (.int r)) Z μ' := ct_of rfl rfl (Nat.le_of_ble_eq_true rfl) (fun X C E => t_X8_whole μ a0 a1 r μ' k0 h C E)
