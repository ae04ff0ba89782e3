def eN (c : Int32) : String := if c = 1 then "java/lang/IndexOutOfBoundsException" else if c = 2 then "java/lang/IllegalArgumentException" else "java/lang/IllegalStateException"
abbrev isX (c : Int32) : Prop := c = 1 ∨ c = 2 ∨ c = 3
theorem vxa_1 : (vx_atS RX7 253 "java/lang/IndexOutOfBoundsException" XNs).all (fun w => !goodWord w || decide (w ∈ lw_tbl)) = true := by decide +kernel
theorem vxb_1 : (vx_atS RX7 253 "java/lang/IndexOutOfBoundsException" XNs).all (fun w => goodWord w || decide (w ∈ XB "java/lang/IndexOutOfBoundsException")) = true := by decide +kernel
theorem vxc_1 : (Cond.classLink RX7 249 "java/lang/IndexOutOfBoundsException" :: Cond.initialized "java/lang/IndexOutOfBoundsException" :: vx_atS RX7 253 "java/lang/IndexOutOfBoundsException" XNs).all vx_ot = true := by decide +kernel
theorem vxa_2 : (vx_atS RX7 260 "java/lang/IllegalArgumentException" XNs).all (fun w => !goodWord w || decide (w ∈ lw_tbl)) = true := by decide +kernel
theorem vxb_2 : (vx_atS RX7 260 "java/lang/IllegalArgumentException" XNs).all (fun w => goodWord w || decide (w ∈ XB "java/lang/IllegalArgumentException")) = true := by decide +kernel
theorem vxc_2 : (Cond.classLink RX7 256 "java/lang/IllegalArgumentException" :: Cond.initialized "java/lang/IllegalArgumentException" :: vx_atS RX7 260 "java/lang/IllegalArgumentException" XNs).all vx_ot = true := by decide +kernel
theorem vxa_3 : (vx_atS RX7 265 "java/lang/IllegalStateException" XNs).all (fun w => !goodWord w || decide (w ∈ lw_tbl)) = true := by decide +kernel
theorem vxb_3 : (vx_atS RX7 265 "java/lang/IllegalStateException" XNs).all (fun w => goodWord w || decide (w ∈ XB "java/lang/IllegalStateException")) = true := by decide +kernel
theorem vxc_3 : (Cond.classLink RX7 261 "java/lang/IllegalStateException" :: Cond.initialized "java/lang/IllegalStateException" :: vx_atS RX7 265 "java/lang/IllegalStateException" XNs).all vx_ot = true := by decide +kernel
set_option maxRecDepth 100000 in
set_option maxHeartbeats 4000000 in
theorem ctx_X7_refuse {l : Launch} {Z : ZZ} {μ : Mm} {c : Int32} (hl : l.stackTraces = false) (hc : isX c) : CtX l Z yX7_refuse cX7_refuse 1 none 6 1 6 [.int c] μ (eN c) μ := by
  refine ctx_of rfl rfl (Nat.le_of_ble_eq_true rfl) (fun X C EE => ?_)
  show G Z X 1 0 0 0 [(0, .int c)] [] μ
  rcases hc with rfl | rfl | rfl
  · refine g_iload_n C (i := 0) 0 rfl rfl (dk kX7_refuse 0 rfl) ?_
    refine g_iconst C (v := 1) (by decide) (dk kX7_refuse 1 rfl) ?_
    refine g_icmp_ne C (tgt := 15) (dk kX7_refuse 2 rfl) (by decide) (fun c => absurd rfl c) (fun _ => ?_)
    exact gx_throwS C hl EE (E := "java/lang/IndexOutOfBoundsException") (text := "there is no such dot, label or customer") (ik := 249) (is := 251) (ic := 253) (by decide +kernel) wd_1_227 wd_1_13 (List.mem_of_getElem? (i := 0) rfl) (List.mem_of_getElem? (i := 0) rfl) vxa_1 vxb_1 vxc_1 (dk kX7_refuse 3 rfl) (dk kX7_refuse 4 rfl) (dk kX7_refuse 5 rfl) (dk kX7_refuse 6 rfl) (dk kX7_refuse 7 rfl) (by decide) (Nat.le_of_ble_eq_true rfl) ⟨by decide, by decide⟩
  · refine g_iload_n C (i := 0) 0 rfl rfl (dk kX7_refuse 0 rfl) ?_
    refine g_iconst C (v := 1) (by decide) (dk kX7_refuse 1 rfl) ?_
    refine g_icmp_ne C (tgt := 15) (dk kX7_refuse 2 rfl) (by decide) (fun _ => ?_) (fun c => absurd c (by decide))
    refine g_iload_n C (i := 0) 0 rfl rfl (dk kX7_refuse 8 rfl) ?_
    refine g_iconst C (v := 2) (by decide) (dk kX7_refuse 9 rfl) ?_
    refine g_icmp_ne C (tgt := 31) (dk kX7_refuse 10 rfl) (by decide) (fun c => absurd rfl c) (fun _ => ?_)
    exact gx_throwSW C hl EE (E := "java/lang/IllegalArgumentException") (text := "an argument is out of range") (ik := 256) (is := 258) (ic := 260) (by decide +kernel) wd_2_55 wd_1_14 (List.mem_of_getElem? (i := 1) rfl) (List.mem_of_getElem? (i := 1) rfl) vxa_2 vxb_2 vxc_2 (dk kX7_refuse 11 rfl) (dk kX7_refuse 12 rfl) (dk kX7_refuse 13 rfl) (dk kX7_refuse 14 rfl) (dk kX7_refuse 15 rfl) (by decide) (Nat.le_of_ble_eq_true rfl) ⟨by decide, by decide⟩
  · refine g_iload_n C (i := 0) 0 rfl rfl (dk kX7_refuse 0 rfl) ?_
    refine g_iconst C (v := 1) (by decide) (dk kX7_refuse 1 rfl) ?_
    refine g_icmp_ne C (tgt := 15) (dk kX7_refuse 2 rfl) (by decide) (fun _ => ?_) (fun c => absurd c (by decide))
    refine g_iload_n C (i := 0) 0 rfl rfl (dk kX7_refuse 8 rfl) ?_
    refine g_iconst C (v := 2) (by decide) (dk kX7_refuse 9 rfl) ?_
    refine g_icmp_ne C (tgt := 31) (dk kX7_refuse 10 rfl) (by decide) (fun _ => ?_) (fun c => absurd c (by decide))
    refine g_iload_n C (i := 0) 0 rfl rfl (dk kX7_refuse 16 rfl) ?_
    refine g_iconst C (v := 3) (by decide) (dk kX7_refuse 17 rfl) ?_
    refine g_icmp_ne C (tgt := 47) (dk kX7_refuse 18 rfl) (by decide) (fun c => absurd rfl c) (fun _ => ?_)
    exact gx_throwSW C hl EE (E := "java/lang/IllegalStateException") (text := "this cannot be done now") (ik := 261) (is := 263) (ic := 265) (by decide +kernel) wd_2_71 wd_1_15 (List.mem_of_getElem? (i := 2) rfl) (List.mem_of_getElem? (i := 2) rfl) vxa_3 vxb_3 vxc_3 (dk kX7_refuse 19 rfl) (dk kX7_refuse 20 rfl) (dk kX7_refuse 21 rfl) (dk kX7_refuse 22 rfl) (dk kX7_refuse 23 rfl) (by decide) (Nat.le_of_ble_eq_true rfl) ⟨by decide, by decide⟩
def fx_X7_addCustomer (K : Nat → Nat × Nat) (μ : Mm) (a0 : Nat) : Option (Int32 × Mm) :=
  bd (rf K μ a0 3 4) fun b1 => bd (f_X5_whyNotNewCustomer K μ b1) fun x3 => some (x3, μ)
set_option maxRecDepth 100000 in
set_option maxHeartbeats 4000000 in
theorem ctx_X7_addCustomer {l : Launch} {Z : ZZ} {μ : Mm} {a0 : Nat} {c : Int32} {μ9 : Mm} (k0 : (zk Z a0).1 = 5) (hl : l.stackTraces = false) (h : fx_X7_addCustomer (zk Z) μ a0 = some (c, μ9)) (hc : isX c) : CtX l Z yX7_addCustomer cX7_addCustomer 1 (some .int) 7 1 6 [.ref (za Z a0)] μ (eN c) μ9 := by
  refine ctx_of rfl rfl (Nat.le_of_ble_eq_true rfl) (fun X C EE => ?_)
  show G Z X 1 0 0 0 [(0, .ref (za Z a0))] [] μ
  unfold fx_X7_addCustomer at h
  refine g_aload_n C (i := 0) 0 rfl rfl (dk kX7_addCustomer 0 rfl) ?_
  obtain ⟨b1, eb1, h⟩ := bd_inv h
  obtain ⟨rb1, kb1⟩ := rf_inv eb1
  refine gR_5_3 C k0 (C.w wd_1_190) rb1 (dk kX7_addCustomer 1 rfl) ?_
  obtain ⟨x3, eq2, h⟩ := bd_inv h
  refine g_callV C EE.2.1 (rest := []) 0 (ct_X5_whyNotNewCustomer kb1 eq2) wd_3_5 mm_X5_whyNotNewCustomer ⟨rfl, by decide, by decide, by decide⟩ rfl (by decide) kb1 (by decide) rfl rfl (Nat.le_of_ble_eq_true rfl) (by decide) (dk kX7_addCustomer 2 rfl) ?_
  obtain ⟨h8, h9⟩ := Prod.mk.inj (Option.some.inj h)
  subst h8
  subst h9
  exact gx_callS C EE (rest := []) 1 (ctx_X7_refuse hl hc) wd_1_224 mm_X7_refuse ⟨by decide, by decide, by decide⟩ rfl (by decide) rfl (Nat.le_of_ble_eq_true rfl) (by decide) (dk kX7_addCustomer 3 rfl)

def fx_X7_addLabel (K : Nat → Nat × Nat) (μ : Mm) (a0 : Nat) (a1 : Int32) (a2 : Int32) : Option (Int32 × Mm) :=
  bd (rf K μ a0 3 4) fun b1 => bd (f_X5_whyNotNewLabel K μ b1 a1 a2) fun x3 => some (x3, μ)
set_option maxRecDepth 100000 in
set_option maxHeartbeats 4000000 in
theorem ctx_X7_addLabel {l : Launch} {Z : ZZ} {μ : Mm} {a0 : Nat} {a1 : Int32} {a2 : Int32} {c : Int32} {μ9 : Mm} (k0 : (zk Z a0).1 = 5) (hl : l.stackTraces = false) (h : fx_X7_addLabel (zk Z) μ a0 a1 a2 = some (c, μ9)) (hc : isX c) : CtX l Z yX7_addLabel cX7_addLabel 3 (some .int) 7 1 6 [.ref (za Z a0), .int a1, .int a2] μ (eN c) μ9 := by
  refine ctx_of rfl rfl (Nat.le_of_ble_eq_true rfl) (fun X C EE => ?_)
  show G Z X 3 0 0 0 [(0, .ref (za Z a0)), (1, .int a1), (2, .int a2)] [] μ
  unfold fx_X7_addLabel at h
  refine g_aload_n C (i := 0) 0 rfl rfl (dk kX7_addLabel 0 rfl) ?_
  obtain ⟨b1, eb1, h⟩ := bd_inv h
  obtain ⟨rb1, kb1⟩ := rf_inv eb1
  refine gR_5_3 C k0 (C.w wd_1_190) rb1 (dk kX7_addLabel 1 rfl) ?_
  refine g_iload_n C (i := 1) 1 rfl rfl (dk kX7_addLabel 2 rfl) ?_
  refine g_iload_n C (i := 2) 2 rfl rfl (dk kX7_addLabel 3 rfl) ?_
  obtain ⟨x3, eq2, h⟩ := bd_inv h
  refine g_callV C EE.2.1 (rest := []) 2 (ct_X5_whyNotNewLabel kb1 eq2) wd_2_161 mm_X5_whyNotNewLabel ⟨rfl, by decide, by decide, by decide⟩ rfl (by decide) kb1 (by decide) rfl rfl (Nat.le_of_ble_eq_true rfl) (by decide) (dk kX7_addLabel 4 rfl) ?_
  obtain ⟨h8, h9⟩ := Prod.mk.inj (Option.some.inj h)
  subst h8
  subst h9
  exact gx_callS C EE (rest := []) 1 (ctx_X7_refuse hl hc) wd_1_224 mm_X7_refuse ⟨by decide, by decide, by decide⟩ rfl (by decide) rfl (Nat.le_of_ble_eq_true rfl) (by decide) (dk kX7_addLabel 5 rfl)

def fx_X7_begin (K : Nat → Nat × Nat) (μ : Mm) (a0 : Nat) (a1 : Int32) : Option (Int32 × Mm) :=
  bd (rf K μ a0 3 4) fun b1 => bd (f_X5_whyNotNewHead b1 a1) fun x3 => some (x3, μ)
set_option maxRecDepth 100000 in
set_option maxHeartbeats 4000000 in
theorem ctx_X7_begin {l : Launch} {Z : ZZ} {μ : Mm} {a0 : Nat} {a1 : Int32} {c : Int32} {μ9 : Mm} (k0 : (zk Z a0).1 = 5) (hl : l.stackTraces = false) (h : fx_X7_begin (zk Z) μ a0 a1 = some (c, μ9)) (hc : isX c) : CtX l Z yX7_begin cX7_begin 2 (some .int) 7 1 6 [.ref (za Z a0), .int a1] μ (eN c) μ9 := by
  refine ctx_of rfl rfl (Nat.le_of_ble_eq_true rfl) (fun X C EE => ?_)
  show G Z X 2 0 0 0 [(0, .ref (za Z a0)), (1, .int a1)] [] μ
  unfold fx_X7_begin at h
  refine g_aload_n C (i := 0) 0 rfl rfl (dk kX7_begin 0 rfl) ?_
  obtain ⟨b1, eb1, h⟩ := bd_inv h
  obtain ⟨rb1, kb1⟩ := rf_inv eb1
  refine gR_5_3 C k0 (C.w wd_1_190) rb1 (dk kX7_begin 1 rfl) ?_
  refine g_iload_n C (i := 1) 1 rfl rfl (dk kX7_begin 2 rfl) ?_
  obtain ⟨x3, eq2, h⟩ := bd_inv h
  refine g_callV C EE.2.1 (rest := []) 1 (ct_X5_whyNotNewHead kb1 eq2) wd_1_220 mm_X5_whyNotNewHead ⟨rfl, by decide, by decide, by decide⟩ rfl (by decide) kb1 (by decide) rfl rfl (Nat.le_of_ble_eq_true rfl) (by decide) (dk kX7_begin 3 rfl) ?_
  obtain ⟨h8, h9⟩ := Prod.mk.inj (Option.some.inj h)
  subst h8
  subst h9
  exact gx_callS C EE (rest := []) 1 (ctx_X7_refuse hl hc) wd_1_224 mm_X7_refuse ⟨by decide, by decide, by decide⟩ rfl (by decide) rfl (Nat.le_of_ble_eq_true rfl) (by decide) (dk kX7_begin 4 rfl)

def fx_X7_cool (K : Nat → Nat × Nat) (μ : Mm) (a0 : Nat) (a1 : Int32) : Option (Int32 × Mm) :=
  bd (rf K μ a0 3 4) fun b1 => bd (f_X5_whyNotPassLines b1 a1) fun x3 => some (x3, μ)
set_option maxRecDepth 100000 in
set_option maxHeartbeats 4000000 in
theorem ctx_X7_cool {l : Launch} {Z : ZZ} {μ : Mm} {a0 : Nat} {a1 : Int32} {c : Int32} {μ9 : Mm} (k0 : (zk Z a0).1 = 5) (hl : l.stackTraces = false) (h : fx_X7_cool (zk Z) μ a0 a1 = some (c, μ9)) (hc : isX c) : CtX l Z yX7_cool cX7_cool 2 (some .int) 7 1 6 [.ref (za Z a0), .int a1] μ (eN c) μ9 := by
  refine ctx_of rfl rfl (Nat.le_of_ble_eq_true rfl) (fun X C EE => ?_)
  show G Z X 2 0 0 0 [(0, .ref (za Z a0)), (1, .int a1)] [] μ
  unfold fx_X7_cool at h
  refine g_aload_n C (i := 0) 0 rfl rfl (dk kX7_cool 0 rfl) ?_
  obtain ⟨b1, eb1, h⟩ := bd_inv h
  obtain ⟨rb1, kb1⟩ := rf_inv eb1
  refine gR_5_3 C k0 (C.w wd_1_190) rb1 (dk kX7_cool 1 rfl) ?_
  refine g_iload_n C (i := 1) 1 rfl rfl (dk kX7_cool 2 rfl) ?_
  obtain ⟨x3, eq2, h⟩ := bd_inv h
  refine g_callV C EE.2.1 (rest := []) 1 (ct_X5_whyNotPassLines kb1 eq2) wd_2_222 mm_X5_whyNotPassLines ⟨rfl, by decide, by decide, by decide⟩ rfl (by decide) kb1 (by decide) rfl rfl (Nat.le_of_ble_eq_true rfl) (by decide) (dk kX7_cool 3 rfl) ?_
  obtain ⟨h8, h9⟩ := Prod.mk.inj (Option.some.inj h)
  subst h8
  subst h9
  exact gx_callS C EE (rest := []) 1 (ctx_X7_refuse hl hc) wd_1_224 mm_X7_refuse ⟨by decide, by decide, by decide⟩ rfl (by decide) rfl (Nat.le_of_ble_eq_true rfl) (by decide) (dk kX7_cool 4 rfl)

def fx_X7_customer (K : Nat → Nat × Nat) (μ : Mm) (a0 : Nat) (a1 : Int32) (a2 : Int32) : Option Int32 :=
  bd (rf K μ a0 3 4) fun b1 => bd (f_X5_whyNotCustomerValue K μ b1 a1 a2) fun x3 => some x3
set_option maxRecDepth 100000 in
set_option maxHeartbeats 4000000 in
theorem ctx_X7_customer {l : Launch} {Z : ZZ} {μ : Mm} {a0 : Nat} {a1 : Int32} {a2 : Int32} {c : Int32} (k0 : (zk Z a0).1 = 5) (hl : l.stackTraces = false) (h : fx_X7_customer (zk Z) μ a0 a1 a2 = some c) (hc : isX c) : CtX l Z yX7_customer cX7_customer 3 (some .int) 7 1 6 [.ref (za Z a0), .int a1, .int a2] μ (eN c) μ := by
  refine ctx_of rfl rfl (Nat.le_of_ble_eq_true rfl) (fun X C EE => ?_)
  show G Z X 3 0 0 0 [(0, .ref (za Z a0)), (1, .int a1), (2, .int a2)] [] μ
  unfold fx_X7_customer at h
  refine g_aload_n C (i := 0) 0 rfl rfl (dk kX7_customer 0 rfl) ?_
  obtain ⟨b1, eb1, h⟩ := bd_inv h
  obtain ⟨rb1, kb1⟩ := rf_inv eb1
  refine gR_5_3 C k0 (C.w wd_1_190) rb1 (dk kX7_customer 1 rfl) ?_
  refine g_iload_n C (i := 1) 1 rfl rfl (dk kX7_customer 2 rfl) ?_
  refine g_iload_n C (i := 2) 2 rfl rfl (dk kX7_customer 3 rfl) ?_
  obtain ⟨x3, eq2, h⟩ := bd_inv h
  refine g_callV C EE.2.1 (rest := []) 2 (ct_X5_whyNotCustomerValue kb1 eq2) wd_4_36 mm_X5_whyNotCustomerValue ⟨rfl, by decide, by decide, by decide⟩ rfl (by decide) kb1 (by decide) rfl rfl (Nat.le_of_ble_eq_true rfl) (by decide) (dk kX7_customer 4 rfl) ?_
  have h9 := Option.some.inj h
  subst h9
  exact gx_callS C EE (rest := []) 1 (ctx_X7_refuse hl hc) wd_1_224 mm_X7_refuse ⟨by decide, by decide, by decide⟩ rfl (by decide) rfl (Nat.le_of_ble_eq_true rfl) (by decide) (dk kX7_customer 5 rfl)

def fx_X7_dot (K : Nat → Nat × Nat) (μ : Mm) (a0 : Nat) (a1 : Int32) (a2 : Int32) : Option Int32 :=
  bd (rf K μ a0 3 4) fun b1 => bd (f_X5_whyNotDotValue K μ b1 a1 a2) fun x3 => some x3
set_option maxRecDepth 100000 in
set_option maxHeartbeats 4000000 in
theorem ctx_X7_dot {l : Launch} {Z : ZZ} {μ : Mm} {a0 : Nat} {a1 : Int32} {a2 : Int32} {c : Int32} (k0 : (zk Z a0).1 = 5) (hl : l.stackTraces = false) (h : fx_X7_dot (zk Z) μ a0 a1 a2 = some c) (hc : isX c) : CtX l Z yX7_dot cX7_dot 3 (some .int) 7 1 6 [.ref (za Z a0), .int a1, .int a2] μ (eN c) μ := by
  refine ctx_of rfl rfl (Nat.le_of_ble_eq_true rfl) (fun X C EE => ?_)
  show G Z X 3 0 0 0 [(0, .ref (za Z a0)), (1, .int a1), (2, .int a2)] [] μ
  unfold fx_X7_dot at h
  refine g_aload_n C (i := 0) 0 rfl rfl (dk kX7_dot 0 rfl) ?_
  obtain ⟨b1, eb1, h⟩ := bd_inv h
  obtain ⟨rb1, kb1⟩ := rf_inv eb1
  refine gR_5_3 C k0 (C.w wd_1_190) rb1 (dk kX7_dot 1 rfl) ?_
  refine g_iload_n C (i := 1) 1 rfl rfl (dk kX7_dot 2 rfl) ?_
  refine g_iload_n C (i := 2) 2 rfl rfl (dk kX7_dot 3 rfl) ?_
  obtain ⟨x3, eq2, h⟩ := bd_inv h
  refine g_callV C EE.2.1 (rest := []) 2 (ct_X5_whyNotDotValue kb1 eq2) wd_3_202 mm_X5_whyNotDotValue ⟨rfl, by decide, by decide, by decide⟩ rfl (by decide) kb1 (by decide) rfl rfl (Nat.le_of_ble_eq_true rfl) (by decide) (dk kX7_dot 4 rfl) ?_
  have h9 := Option.some.inj h
  subst h9
  exact gx_callS C EE (rest := []) 1 (ctx_X7_refuse hl hc) wd_1_224 mm_X7_refuse ⟨by decide, by decide, by decide⟩ rfl (by decide) rfl (Nat.le_of_ble_eq_true rfl) (by decide) (dk kX7_dot 5 rfl)

def fx_X7_endRent (K : Nat → Nat × Nat) (μ : Mm) (a0 : Nat) (a1 : Int32) : Option (Int32 × Mm) :=
  bd (rf K μ a0 3 4) fun b1 => bd (f_X5_whyNotEndLet K μ b1 a1) fun x3 => some (x3, μ)
set_option maxRecDepth 100000 in
set_option maxHeartbeats 4000000 in
theorem ctx_X7_endRent {l : Launch} {Z : ZZ} {μ : Mm} {a0 : Nat} {a1 : Int32} {c : Int32} {μ9 : Mm} (k0 : (zk Z a0).1 = 5) (hl : l.stackTraces = false) (h : fx_X7_endRent (zk Z) μ a0 a1 = some (c, μ9)) (hc : isX c) : CtX l Z yX7_endRent cX7_endRent 2 (some .int) 7 1 6 [.ref (za Z a0), .int a1] μ (eN c) μ9 := by
  refine ctx_of rfl rfl (Nat.le_of_ble_eq_true rfl) (fun X C EE => ?_)
  show G Z X 2 0 0 0 [(0, .ref (za Z a0)), (1, .int a1)] [] μ
  unfold fx_X7_endRent at h
  refine g_aload_n C (i := 0) 0 rfl rfl (dk kX7_endRent 0 rfl) ?_
  obtain ⟨b1, eb1, h⟩ := bd_inv h
  obtain ⟨rb1, kb1⟩ := rf_inv eb1
  refine gR_5_3 C k0 (C.w wd_1_190) rb1 (dk kX7_endRent 1 rfl) ?_
  refine g_iload_n C (i := 1) 1 rfl rfl (dk kX7_endRent 2 rfl) ?_
  obtain ⟨x3, eq2, h⟩ := bd_inv h
  refine g_callV C EE.2.1 (rest := []) 1 (ct_X5_whyNotEndLet kb1 eq2) wd_3_23 mm_X5_whyNotEndLet ⟨rfl, by decide, by decide, by decide⟩ rfl (by decide) kb1 (by decide) rfl rfl (Nat.le_of_ble_eq_true rfl) (by decide) (dk kX7_endRent 3 rfl) ?_
  obtain ⟨h8, h9⟩ := Prod.mk.inj (Option.some.inj h)
  subst h8
  subst h9
  exact gx_callS C EE (rest := []) 1 (ctx_X7_refuse hl hc) wd_1_224 mm_X7_refuse ⟨by decide, by decide, by decide⟩ rfl (by decide) rfl (Nat.le_of_ble_eq_true rfl) (by decide) (dk kX7_endRent 4 rfl)

def fx_X7_label (K : Nat → Nat × Nat) (μ : Mm) (a0 : Nat) (a1 : Int32) (a2 : Int32) : Option Int32 :=
  bd (rf K μ a0 3 4) fun b1 => bd (f_X5_whyNotLabelValue K μ b1 a1 a2 6) fun x3 => some x3
set_option maxRecDepth 100000 in
set_option maxHeartbeats 4000000 in
theorem ctx_X7_label {l : Launch} {Z : ZZ} {μ : Mm} {a0 : Nat} {a1 : Int32} {a2 : Int32} {c : Int32} (k0 : (zk Z a0).1 = 5) (hl : l.stackTraces = false) (h : fx_X7_label (zk Z) μ a0 a1 a2 = some c) (hc : isX c) : CtX l Z yX7_label cX7_label 3 (some .int) 7 1 6 [.ref (za Z a0), .int a1, .int a2] μ (eN c) μ := by
  refine ctx_of rfl rfl (Nat.le_of_ble_eq_true rfl) (fun X C EE => ?_)
  show G Z X 3 0 0 0 [(0, .ref (za Z a0)), (1, .int a1), (2, .int a2)] [] μ
  unfold fx_X7_label at h
  refine g_aload_n C (i := 0) 0 rfl rfl (dk kX7_label 0 rfl) ?_
  obtain ⟨b1, eb1, h⟩ := bd_inv h
  obtain ⟨rb1, kb1⟩ := rf_inv eb1
  refine gR_5_3 C k0 (C.w wd_1_190) rb1 (dk kX7_label 1 rfl) ?_
  refine g_iload_n C (i := 1) 1 rfl rfl (dk kX7_label 2 rfl) ?_
  refine g_iload_n C (i := 2) 2 rfl rfl (dk kX7_label 3 rfl) ?_
  refine g_bipush C (v := 6) (by decide) (dk kX7_label 4 rfl) ?_
  obtain ⟨x3, eq2, h⟩ := bd_inv h
  refine g_callV C EE.2.1 (rest := []) 3 (ct_X5_whyNotLabelValue kb1 eq2) wd_4_8 mm_X5_whyNotLabelValue ⟨rfl, by decide, by decide, by decide⟩ rfl (by decide) kb1 (by decide) rfl rfl (Nat.le_of_ble_eq_true rfl) (by decide) (dk kX7_label 5 rfl) ?_
  have h9 := Option.some.inj h
  subst h9
  exact gx_callS C EE (rest := []) 1 (ctx_X7_refuse hl hc) wd_1_224 mm_X7_refuse ⟨by decide, by decide, by decide⟩ rfl (by decide) rfl (Nat.le_of_ble_eq_true rfl) (by decide) (dk kX7_label 6 rfl)

def fx_X7_print (K : Nat → Nat × Nat) (μ : Mm) (a0 : Nat) (a1 : Int32) (a2 : Int32) (a3 : Int32) : Option (Int32 × Mm) :=
  bd (rf K μ a0 3 4) fun b1 => bd (f_X5_whyNotPrintAt K μ b1 a1 a2 a3) fun x3 => some (x3, μ)
set_option maxRecDepth 100000 in
set_option maxHeartbeats 4000000 in
theorem ctx_X7_print {l : Launch} {Z : ZZ} {μ : Mm} {a0 : Nat} {a1 : Int32} {a2 : Int32} {a3 : Int32} {c : Int32} {μ9 : Mm} (k0 : (zk Z a0).1 = 5) (hl : l.stackTraces = false) (h : fx_X7_print (zk Z) μ a0 a1 a2 a3 = some (c, μ9)) (hc : isX c) : CtX l Z yX7_print cX7_print 4 (some .int) 7 1 6 [.ref (za Z a0), .int a1, .int a2, .int a3] μ (eN c) μ9 := by
  refine ctx_of rfl rfl (Nat.le_of_ble_eq_true rfl) (fun X C EE => ?_)
  show G Z X 4 0 0 0 [(0, .ref (za Z a0)), (1, .int a1), (2, .int a2), (3, .int a3)] [] μ
  unfold fx_X7_print at h
  refine g_aload_n C (i := 0) 0 rfl rfl (dk kX7_print 0 rfl) ?_
  obtain ⟨b1, eb1, h⟩ := bd_inv h
  obtain ⟨rb1, kb1⟩ := rf_inv eb1
  refine gR_5_3 C k0 (C.w wd_1_190) rb1 (dk kX7_print 1 rfl) ?_
  refine g_iload_n C (i := 1) 1 rfl rfl (dk kX7_print 2 rfl) ?_
  refine g_iload_n C (i := 2) 2 rfl rfl (dk kX7_print 3 rfl) ?_
  refine g_iload_n C (i := 3) 3 rfl rfl (dk kX7_print 4 rfl) ?_
  obtain ⟨x3, eq2, h⟩ := bd_inv h
  refine g_callV C EE.2.1 (rest := []) 3 (ct_X5_whyNotPrintAt kb1 eq2) wd_3_82 mm_X5_whyNotPrintAt ⟨rfl, by decide, by decide, by decide⟩ rfl (by decide) kb1 (by decide) rfl rfl (Nat.le_of_ble_eq_true rfl) (by decide) (dk kX7_print 5 rfl) ?_
  obtain ⟨h8, h9⟩ := Prod.mk.inj (Option.some.inj h)
  subst h8
  subst h9
  exact gx_callS C EE (rest := []) 1 (ctx_X7_refuse hl hc) wd_1_224 mm_X7_refuse ⟨by decide, by decide, by decide⟩ rfl (by decide) rfl (Nat.le_of_ble_eq_true rfl) (by decide) (dk kX7_print 6 rfl)

def fx_X7_printBest (K : Nat → Nat × Nat) (μ : Mm) (a0 : Nat) (a1 : Int32) (a2 : Int32) : Option (Int32 × Mm) :=
  bd (rf K μ a0 3 4) fun b1 => bd (f_X5_whyNotPrintAtBest K μ b1 a1 a2) fun q2 => lt1 q2.1 fun x4 => lt1 q2.2 fun μ3 => some (x4, μ3)
set_option maxRecDepth 100000 in
set_option maxHeartbeats 4000000 in
theorem ctx_X7_printBest {l : Launch} {Z : ZZ} {μ : Mm} {a0 : Nat} {a1 : Int32} {a2 : Int32} {c : Int32} {μ9 : Mm} (k0 : (zk Z a0).1 = 5) (hl : l.stackTraces = false) (h : fx_X7_printBest (zk Z) μ a0 a1 a2 = some (c, μ9)) (hc : isX c) : CtX l Z yX7_printBest cX7_printBest 3 (some .int) 7 1 6 [.ref (za Z a0), .int a1, .int a2] μ (eN c) μ9 := by
  refine ctx_of rfl rfl (Nat.le_of_ble_eq_true rfl) (fun X C EE => ?_)
  show G Z X 3 0 0 0 [(0, .ref (za Z a0)), (1, .int a1), (2, .int a2)] [] μ
  unfold fx_X7_printBest at h
  refine g_aload_n C (i := 0) 0 rfl rfl (dk kX7_printBest 0 rfl) ?_
  obtain ⟨b1, eb1, h⟩ := bd_inv h
  obtain ⟨rb1, kb1⟩ := rf_inv eb1
  refine gR_5_3 C k0 (C.w wd_1_190) rb1 (dk kX7_printBest 1 rfl) ?_
  refine g_iload_n C (i := 1) 1 rfl rfl (dk kX7_printBest 2 rfl) ?_
  refine g_iload_n C (i := 2) 2 rfl rfl (dk kX7_printBest 3 rfl) ?_
  obtain ⟨q2, eq2, h⟩ := bd_inv h
  obtain ⟨x4, ex4, h⟩ := lt_inv h
  obtain ⟨μ3, eμ3, h⟩ := lt_inv h
  rw [show q2 = (x4, μ3) from by rw [ex4, eμ3]] at eq2
  refine g_callV C EE.2.1 (rest := []) 2 (ct_X5_whyNotPrintAtBest kb1 eq2) wd_3_143 mm_X5_whyNotPrintAtBest ⟨rfl, by decide, by decide, by decide⟩ rfl (by decide) kb1 (by decide) rfl rfl (Nat.le_of_ble_eq_true rfl) (by decide) (dk kX7_printBest 4 rfl) ?_
  obtain ⟨h8, h9⟩ := Prod.mk.inj (Option.some.inj h)
  subst h8
  subst h9
  exact gx_callS C EE (rest := []) 1 (ctx_X7_refuse hl hc) wd_1_224 mm_X7_refuse ⟨by decide, by decide, by decide⟩ rfl (by decide) rfl (Nat.le_of_ble_eq_true rfl) (by decide) (dk kX7_printBest 5 rfl)

def fx_X7_rent (K : Nat → Nat × Nat) (μ : Mm) (a0 : Nat) (a1 : Int32) (a2 : Int32) (a3 : Int32) : Option (Int32 × Mm) :=
  bd (rf K μ a0 3 4) fun b1 => bd (f_X5_whyNotLet K μ b1 a1 a2 a3) fun x3 => some (x3, μ)
set_option maxRecDepth 100000 in
set_option maxHeartbeats 4000000 in
theorem ctx_X7_rent {l : Launch} {Z : ZZ} {μ : Mm} {a0 : Nat} {a1 : Int32} {a2 : Int32} {a3 : Int32} {c : Int32} {μ9 : Mm} (k0 : (zk Z a0).1 = 5) (hl : l.stackTraces = false) (h : fx_X7_rent (zk Z) μ a0 a1 a2 a3 = some (c, μ9)) (hc : isX c) : CtX l Z yX7_rent cX7_rent 4 (some .int) 7 1 6 [.ref (za Z a0), .int a1, .int a2, .int a3] μ (eN c) μ9 := by
  refine ctx_of rfl rfl (Nat.le_of_ble_eq_true rfl) (fun X C EE => ?_)
  show G Z X 4 0 0 0 [(0, .ref (za Z a0)), (1, .int a1), (2, .int a2), (3, .int a3)] [] μ
  unfold fx_X7_rent at h
  refine g_aload_n C (i := 0) 0 rfl rfl (dk kX7_rent 0 rfl) ?_
  obtain ⟨b1, eb1, h⟩ := bd_inv h
  obtain ⟨rb1, kb1⟩ := rf_inv eb1
  refine gR_5_3 C k0 (C.w wd_1_190) rb1 (dk kX7_rent 1 rfl) ?_
  refine g_iload_n C (i := 1) 1 rfl rfl (dk kX7_rent 2 rfl) ?_
  refine g_iload_n C (i := 2) 2 rfl rfl (dk kX7_rent 3 rfl) ?_
  refine g_iload_n C (i := 3) 3 rfl rfl (dk kX7_rent 4 rfl) ?_
  obtain ⟨x3, eq2, h⟩ := bd_inv h
  refine g_callV C EE.2.1 (rest := []) 3 (ct_X5_whyNotLet kb1 eq2) wd_3_46 mm_X5_whyNotLet ⟨rfl, by decide, by decide, by decide⟩ rfl (by decide) kb1 (by decide) rfl rfl (Nat.le_of_ble_eq_true rfl) (by decide) (dk kX7_rent 5 rfl) ?_
  obtain ⟨h8, h9⟩ := Prod.mk.inj (Option.some.inj h)
  subst h8
  subst h9
  exact gx_callS C EE (rest := []) 1 (ctx_X7_refuse hl hc) wd_1_224 mm_X7_refuse ⟨by decide, by decide, by decide⟩ rfl (by decide) rfl (Nat.le_of_ble_eq_true rfl) (by decide) (dk kX7_rent 6 rfl)

def fx_X7_replace (K : Nat → Nat × Nat) (μ : Mm) (a0 : Nat) (a1 : Int32) : Option (Int32 × Mm) :=
  bd (rf K μ a0 3 4) fun b1 => bd (f_X5_whyNotNewDot K μ b1 a1) fun x3 => some (x3, μ)
set_option maxRecDepth 100000 in
set_option maxHeartbeats 4000000 in
theorem ctx_X7_replace {l : Launch} {Z : ZZ} {μ : Mm} {a0 : Nat} {a1 : Int32} {c : Int32} {μ9 : Mm} (k0 : (zk Z a0).1 = 5) (hl : l.stackTraces = false) (h : fx_X7_replace (zk Z) μ a0 a1 = some (c, μ9)) (hc : isX c) : CtX l Z yX7_replace cX7_replace 2 (some .int) 7 1 6 [.ref (za Z a0), .int a1] μ (eN c) μ9 := by
  refine ctx_of rfl rfl (Nat.le_of_ble_eq_true rfl) (fun X C EE => ?_)
  show G Z X 2 0 0 0 [(0, .ref (za Z a0)), (1, .int a1)] [] μ
  unfold fx_X7_replace at h
  refine g_aload_n C (i := 0) 0 rfl rfl (dk kX7_replace 0 rfl) ?_
  obtain ⟨b1, eb1, h⟩ := bd_inv h
  obtain ⟨rb1, kb1⟩ := rf_inv eb1
  refine gR_5_3 C k0 (C.w wd_1_190) rb1 (dk kX7_replace 1 rfl) ?_
  refine g_iload_n C (i := 1) 1 rfl rfl (dk kX7_replace 2 rfl) ?_
  obtain ⟨x3, eq2, h⟩ := bd_inv h
  refine g_callV C EE.2.1 (rest := []) 1 (ct_X5_whyNotNewDot kb1 eq2) wd_2_202 mm_X5_whyNotNewDot ⟨rfl, by decide, by decide, by decide⟩ rfl (by decide) kb1 (by decide) rfl rfl (Nat.le_of_ble_eq_true rfl) (by decide) (dk kX7_replace 3 rfl) ?_
  obtain ⟨h8, h9⟩ := Prod.mk.inj (Option.some.inj h)
  subst h8
  subst h9
  exact gx_callS C EE (rest := []) 1 (ctx_X7_refuse hl hc) wd_1_224 mm_X7_refuse ⟨by decide, by decide, by decide⟩ rfl (by decide) rfl (Nat.le_of_ble_eq_true rfl) (by decide) (dk kX7_replace 4 rfl)

def fx_X7_row (K : Nat → Nat × Nat) (μ : Mm) (a0 : Nat) (a1 : Int32) (a2 : Int32) : Option Int32 :=
  bd (rf K μ a0 3 4) fun b1 => bd (f_X5_whyNotLabelValue K μ b1 a1 a2 6) fun x3 => some x3
set_option maxRecDepth 100000 in
set_option maxHeartbeats 4000000 in
theorem ctx_X7_row {l : Launch} {Z : ZZ} {μ : Mm} {a0 : Nat} {a1 : Int32} {a2 : Int32} {c : Int32} (k0 : (zk Z a0).1 = 5) (hl : l.stackTraces = false) (h : fx_X7_row (zk Z) μ a0 a1 a2 = some c) (hc : isX c) : CtX l Z yX7_row cX7_row 3 (some .int) 7 1 6 [.ref (za Z a0), .int a1, .int a2] μ (eN c) μ := by
  refine ctx_of rfl rfl (Nat.le_of_ble_eq_true rfl) (fun X C EE => ?_)
  show G Z X 3 0 0 0 [(0, .ref (za Z a0)), (1, .int a1), (2, .int a2)] [] μ
  unfold fx_X7_row at h
  refine g_aload_n C (i := 0) 0 rfl rfl (dk kX7_row 0 rfl) ?_
  obtain ⟨b1, eb1, h⟩ := bd_inv h
  obtain ⟨rb1, kb1⟩ := rf_inv eb1
  refine gR_5_3 C k0 (C.w wd_1_190) rb1 (dk kX7_row 1 rfl) ?_
  refine g_iload_n C (i := 1) 1 rfl rfl (dk kX7_row 2 rfl) ?_
  refine g_iload_n C (i := 2) 2 rfl rfl (dk kX7_row 3 rfl) ?_
  refine g_bipush C (v := 6) (by decide) (dk kX7_row 4 rfl) ?_
  obtain ⟨x3, eq2, h⟩ := bd_inv h
  refine g_callV C EE.2.1 (rest := []) 3 (ct_X5_whyNotLabelValue kb1 eq2) wd_4_8 mm_X5_whyNotLabelValue ⟨rfl, by decide, by decide, by decide⟩ rfl (by decide) kb1 (by decide) rfl rfl (Nat.le_of_ble_eq_true rfl) (by decide) (dk kX7_row 5 rfl) ?_
  have h9 := Option.some.inj h
  subst h9
  exact gx_callS C EE (rest := []) 1 (ctx_X7_refuse hl hc) wd_1_224 mm_X7_refuse ⟨by decide, by decide, by decide⟩ rfl (by decide) rfl (Nat.le_of_ble_eq_true rfl) (by decide) (dk kX7_row 6 rfl)

def fx_X7_set (K : Nat → Nat × Nat) (μ : Mm) (a0 : Nat) (a1 : Int32) (a2 : Int32) : Option (Int32 × Mm) :=
  bd (rf K μ a0 3 4) fun b1 => bd (f_X5_whyNotChangeSetting K μ b1 a1 a2) fun x3 => some (x3, μ)
set_option maxRecDepth 100000 in
set_option maxHeartbeats 4000000 in
theorem ctx_X7_set {l : Launch} {Z : ZZ} {μ : Mm} {a0 : Nat} {a1 : Int32} {a2 : Int32} {c : Int32} {μ9 : Mm} (k0 : (zk Z a0).1 = 5) (hl : l.stackTraces = false) (h : fx_X7_set (zk Z) μ a0 a1 a2 = some (c, μ9)) (hc : isX c) : CtX l Z yX7_set cX7_set 3 (some .int) 7 1 6 [.ref (za Z a0), .int a1, .int a2] μ (eN c) μ9 := by
  refine ctx_of rfl rfl (Nat.le_of_ble_eq_true rfl) (fun X C EE => ?_)
  show G Z X 3 0 0 0 [(0, .ref (za Z a0)), (1, .int a1), (2, .int a2)] [] μ
  unfold fx_X7_set at h
  refine g_aload_n C (i := 0) 0 rfl rfl (dk kX7_set 0 rfl) ?_
  obtain ⟨b1, eb1, h⟩ := bd_inv h
  obtain ⟨rb1, kb1⟩ := rf_inv eb1
  refine gR_5_3 C k0 (C.w wd_1_190) rb1 (dk kX7_set 1 rfl) ?_
  refine g_iload_n C (i := 1) 1 rfl rfl (dk kX7_set 2 rfl) ?_
  refine g_iload_n C (i := 2) 2 rfl rfl (dk kX7_set 3 rfl) ?_
  obtain ⟨x3, eq2, h⟩ := bd_inv h
  refine g_callV C EE.2.1 (rest := []) 2 (ct_X5_whyNotChangeSetting kb1 eq2) wd_2_141 mm_X5_whyNotChangeSetting ⟨rfl, by decide, by decide, by decide⟩ rfl (by decide) kb1 (by decide) rfl rfl (Nat.le_of_ble_eq_true rfl) (by decide) (dk kX7_set 4 rfl) ?_
  obtain ⟨h8, h9⟩ := Prod.mk.inj (Option.some.inj h)
  subst h8
  subst h9
  exact gx_callS C EE (rest := []) 1 (ctx_X7_refuse hl hc) wd_1_224 mm_X7_refuse ⟨by decide, by decide, by decide⟩ rfl (by decide) rfl (Nat.le_of_ble_eq_true rfl) (by decide) (dk kX7_set 5 rfl)

def fx_X7_setRow (K : Nat → Nat × Nat) (μ : Mm) (a0 : Nat) (a1 : Int32) (a2 : Int32) (a3 : Int32) : Option (Int32 × Mm) :=
  bd (rf K μ a0 3 4) fun b1 => bd (f_X5_whyNotChangeRow K μ b1 a1 a2 a3) fun x3 => some (x3, μ)
set_option maxRecDepth 100000 in
set_option maxHeartbeats 4000000 in
theorem ctx_X7_setRow {l : Launch} {Z : ZZ} {μ : Mm} {a0 : Nat} {a1 : Int32} {a2 : Int32} {a3 : Int32} {c : Int32} {μ9 : Mm} (k0 : (zk Z a0).1 = 5) (hl : l.stackTraces = false) (h : fx_X7_setRow (zk Z) μ a0 a1 a2 a3 = some (c, μ9)) (hc : isX c) : CtX l Z yX7_setRow cX7_setRow 4 (some .int) 7 1 6 [.ref (za Z a0), .int a1, .int a2, .int a3] μ (eN c) μ9 := by
  refine ctx_of rfl rfl (Nat.le_of_ble_eq_true rfl) (fun X C EE => ?_)
  show G Z X 4 0 0 0 [(0, .ref (za Z a0)), (1, .int a1), (2, .int a2), (3, .int a3)] [] μ
  unfold fx_X7_setRow at h
  refine g_aload_n C (i := 0) 0 rfl rfl (dk kX7_setRow 0 rfl) ?_
  obtain ⟨b1, eb1, h⟩ := bd_inv h
  obtain ⟨rb1, kb1⟩ := rf_inv eb1
  refine gR_5_3 C k0 (C.w wd_1_190) rb1 (dk kX7_setRow 1 rfl) ?_
  refine g_iload_n C (i := 1) 1 rfl rfl (dk kX7_setRow 2 rfl) ?_
  refine g_iload_n C (i := 2) 2 rfl rfl (dk kX7_setRow 3 rfl) ?_
  refine g_iload_n C (i := 3) 3 rfl rfl (dk kX7_setRow 4 rfl) ?_
  obtain ⟨x3, eq2, h⟩ := bd_inv h
  refine g_callV C EE.2.1 (rest := []) 3 (ct_X5_whyNotChangeRow kb1 eq2) wd_2_178 mm_X5_whyNotChangeRow ⟨rfl, by decide, by decide, by decide⟩ rfl (by decide) kb1 (by decide) rfl rfl (Nat.le_of_ble_eq_true rfl) (by decide) (dk kX7_setRow 5 rfl) ?_
  obtain ⟨h8, h9⟩ := Prod.mk.inj (Option.some.inj h)
  subst h8
  subst h9
  exact gx_callS C EE (rest := []) 1 (ctx_X7_refuse hl hc) wd_1_224 mm_X7_refuse ⟨by decide, by decide, by decide⟩ rfl (by decide) rfl (Nat.le_of_ble_eq_true rfl) (by decide) (dk kX7_setRow 6 rfl)

def fx_X7_whole (K : Nat → Nat × Nat) (μ : Mm) (a0 : Nat) (a1 : Int32) : Option Int32 :=
  lt1 (α := Int32) (if a1 < 0 then 2 else (if a1 < 18 then 0 else 2)) fun x1 => some x1
set_option maxRecDepth 100000 in
set_option maxHeartbeats 4000000 in
theorem ctx_X7_whole {l : Launch} {Z : ZZ} {μ : Mm} {a0 : Nat} {a1 : Int32} {c : Int32} (k0 : (zk Z a0).1 = 5) (hl : l.stackTraces = false) (h : fx_X7_whole (zk Z) μ a0 a1 = some c) (hc : isX c) : CtX l Z yX7_whole cX7_whole 2 (some .int) 7 1 6 [.ref (za Z a0), .int a1] μ (eN c) μ := by
  refine ctx_of rfl rfl (Nat.le_of_ble_eq_true rfl) (fun X C EE => ?_)
  show G Z X 2 0 0 0 [(0, .ref (za Z a0)), (1, .int a1)] [] μ
  unfold fx_X7_whole at h
  refine g_iload_n C (i := 1) 1 rfl rfl (dk kX7_whole 0 rfl) ?_
  obtain ⟨x1, ex1, h⟩ := lt_inv h
  have kj2 : G Z X 2 0 0 15 [(0, .ref (za Z a0)), (1, .int a1)] [.int x1] μ := by
    have h9 := Option.some.inj h
    subst h9
    exact gx_callS C EE (rest := []) 1 (ctx_X7_refuse hl hc) wd_1_224 mm_X7_refuse ⟨by decide, by decide, by decide⟩ rfl (by decide) rfl (Nat.le_of_ble_eq_true rfl) (by decide) (dk kX7_whole 8 rfl)
  clear h
  refine g_if_lt C (tgt := 10) (dk kX7_whole 1 rfl) (by decide) (fun c3 => ?_) (fun c3 => ?_)
  · refine g_iconst C (v := 2) (by decide) (dk kX7_whole 5 rfl) ?_
    refine g_goto C (tgt := 15) (dk kX7_whole 6 rfl) (by decide) ?_
    exact g_nmi (by rw [ex1, if_pos c3]) kj2
  · refine g_iload_n C (i := 1) 1 rfl rfl (dk kX7_whole 2 rfl) ?_
    refine g_bipush C (v := 18) (by decide) (dk kX7_whole 3 rfl) ?_
    refine g_icmp_lt C (tgt := 14) (dk kX7_whole 4 rfl) (by decide) (fun c4 => ?_) (fun c4 => ?_)
    · refine g_iconst C (v := 0) (by decide) (dk kX7_whole 7 rfl) ?_
      exact g_nmi (by rw [ex1, if_neg c3, if_pos c4]) kj2
    · refine g_iconst C (v := 2) (by decide) (dk kX7_whole 5 rfl) ?_
      refine g_goto C (tgt := 15) (dk kX7_whole 6 rfl) (by decide) ?_
      exact g_nmi (by rw [ex1, if_neg c3, if_neg c4]) kj2
