/-! PURE: a command is carried out by both; a text is run -/
section PureP7
def RG (η η' : Mm) : Prop := (∀ a, a ≠ 139 → a ≠ 140 → a ≠ 141 → η'.1 a = η.1 a) ∧ (∀ j, j ≠ 7 → η'.1 139 j = η.1 139 j) ∧ η'.2 = η.2
/-- refused alike, or done alike: while a text is run -/
def RW (μ η : Mm) (why : Option (Int32 × Mm)) (act : Mm → Option (Int32 × Mm)) (ref : Option (Int32 × Mm)) : Prop :=
  (∃ v μ' η' D L C, why = some (v, μ') ∧ ¬ v = 0 ∧ ref = some (0, η') ∧ ¬ η'.1 139 7 = 0 ∧ CR D L C μ' η' ∧ FN μ μ' ∧ RG η η') ∨
  (∃ v μ1 μ2 η2 D L C, why = some (0, μ1) ∧ FN μ μ1 ∧ act μ1 = some (v, μ2) ∧ ref = some (v, η2) ∧ ¬ v < 0 ∧ η2.1 139 7 = 0 ∧ CR D L C μ2 η2 ∧ FN μ μ2 ∧ RG η η2)
theorem RW.cv {μ η : Mm} {why why' : Option (Int32 × Mm)} {act act' : Mm → Option (Int32 × Mm)} {ref ref' : Option (Int32 × Mm)} (h : RW μ η why' act' ref') (e1 : why = why') (e2 : ∀ ν, FN μ ν → act ν = act' ν) (e3 : ref = ref') : RW μ η why act ref := by
  subst e1
  subst e3
  rcases h with h | ⟨v, μ1, μ2, η2, D, L, C, h1, h2, h3, h4⟩
  · exact Or.inl h
  · exact Or.inr ⟨v, μ1, μ2, η2, D, L, C, h1, h2, (e2 μ1 h2).trans h3, h4⟩
theorem run_saves {η : Mm} (h4 : η.1 139 4 = 1) : f_X8_saves KF (sI η 139 7 0) 139 = some (sI η 139 7 0) := by
  have e : (sI η 139 7 0).1 139 4 = 1 := (sI_of (by omega)).trans h4
  unfold f_X8_saves
  rw [e, if_neg (by decide)]
theorem RG.s7 {η η' : Mm} (h : FR (sI η 139 7 0) η') : RG η η' := ⟨fun a h1 h2 h3 => (h.2 a (fun e => by rcases e with e | e; exact h2 e; exact h3 e)).trans (sI_rw h1), fun j hj => by
  rw [h.2 139 (fun e => by have e : 139 = 140 ∨ 139 = 141 := e; omega)]
  exact sI_of hj, h.1⟩
theorem FR.r7 {η η' : Mm} (h : FR (sI η 139 7 0) η') : η'.1 139 7 = 0 := by
  rw [h.2 139 (fun e => by have e : 139 = 140 ∨ 139 = 141 := e; omega)]
  exact sI_at
theorem OP.rw {D L C : Nat} {μ η : Mm} {pl : List (Nat × Nat)} {why : Option Int32} {act : Mm → Option (Int32 × Mm)} {ref : Option (Int32 × Mm)} (h : CR D L C μ η) (h4 : η.1 139 4 = 1) (hpl : ∀ ck ∈ pl, (0 < ck.1 ∧ ck.1 < 4) ∧ 0 < ck.2 ∧ ck.2 < 4) (o : OP D L C η pl why act ref) : RW μ η (bd why fun x => some (x, μ)) act ref := by
  rcases o with ⟨ck, m, e1, e2⟩ | ⟨e1, g⟩
  · obtain ⟨⟨a1, a2⟩, a3, a4⟩ := hpl ck m
    refine Or.inl ⟨nI ck.1, μ, sI η 139 7 (nI ck.2), D, L, C, by rw [e1]; rfl, nI_ne0 (by omega) (by omega), e2, ?_, h.s7 _, FrI.rfl, ⟨fun a h1 _ _ => sI_rw h1, fun j hj => sI_of hj, rfl⟩⟩
    rw [sI_at]
    exact nI_ne0 (by omega) (by omega)
  · obtain ⟨v, μ2, η2, D', L', C', y1, y2, y3, y4, y5, y6⟩ := g μ (sI η 139 7 0) (h.s7 0) (run_saves h4) (sI_rw (by omega))
    exact Or.inr ⟨v, μ, μ2, η2, D', L', C', by rw [e1]; rfl, FrI.rfl, y1, y2, y6, y5.r7, y3, y4, RG.s7 y5⟩
theorem OPB.rw {D L C : Nat} {μ η : Mm} {pl : List (Nat × Nat)} {why : Option (Int32 × Mm)} {act : Mm → Option (Int32 × Mm)} {ref : Option (Int32 × Mm)} (h : CR D L C μ η) (h4 : η.1 139 4 = 1) (hpl : ∀ ck ∈ pl, (0 < ck.1 ∧ ck.1 < 4) ∧ 0 < ck.2 ∧ ck.2 < 4) (o : OPB D L C μ η pl why act ref) : RW μ η why act ref := by
  rcases o with ⟨ck, μ', η', m, e1, e2, f1, f2⟩ | ⟨μ', η', e1, f1, f2, g⟩
  · obtain ⟨⟨a1, a2⟩, a3, a4⟩ := hpl ck m
    refine Or.inl ⟨nI ck.1, μ', sI η' 139 7 (nI ck.2), D, L, C, e1, nI_ne0 (by omega) (by omega), e2, ?_, (h.q f1 f2).s7 _, f1.fn, ⟨fun a h1 _ h3 => (sI_rw h1).trans (f2.2 a h3), fun j hj => (sI_of hj).trans (by rw [f2.2 139 (fun e => by have e : 139 = 141 := e; omega)]), f2.1⟩⟩
    rw [sI_at]
    exact nI_ne0 (by omega) (by omega)
  · have r139 : η'.1 139 = η.1 139 := f2.2 139 (fun e => by have e : 139 = 141 := e; omega)
    obtain ⟨v, μ2, η2, D', L', C', y1, y2, y3, y4, y5, y6⟩ := g μ' (sI η' 139 7 0) ((h.q f1 f2).s7 0) (run_saves (by rw [r139]; exact h4)) ((sI_rw (by omega)).trans (f2.2 140 (fun e => by have e : 140 = 141 := e; omega)))
    obtain ⟨z1, z2, z3⟩ := RG.s7 y5
    exact Or.inr ⟨v, μ', μ2, η2, D', L', C', e1, f1.fn, y1, y2, y6, y5.r7, y3, f1.fn.trans y4, ⟨fun a h1 h2 h3 => (z1 a h1 h2 h3).trans (f2.2 a h3), fun j hj => (z2 j hj).trans (by rw [r139]), z3.trans f2.1⟩⟩
theorem bd_id (q : Option (Int32 × Mm)) : (bd q fun q => lt1 q.1 fun x => lt1 q.2 fun μ => some (x, μ)) = q := by cases q <;> rfl
theorem sw_t : ∀ i, i < 10 → inb (nI i) (sA 3).length ∧ (sA 3).getD (ix (nI i)) 0 = nI ((i + 1) % 10) := by decide +kernel
theorem cnt_t : cnt 0 = 1 ∧ cnt 1 = 2 ∧ cnt 2 = 3 ∧ cnt 3 = 0 ∧ cnt 4 = 3 ∧ cnt 5 = 3 ∧ cnt 6 = 2 ∧ cnt 7 = 1 ∧ cnt 8 = 1 ∧ cnt 9 = 2 := by decide +kernel
theorem cw_0 (μ : Mm) : f_X5_whyNotCarryOut KF μ 9 0 3 = bd (f_X5_whyNotNewHead 9 (μ.1 3 0)) fun x => some (x, μ) := by
  unfold f_X5_whyNotCarryOut
  rw [show f_Jx29ce0_ordinal_8abf5 0 = some (nI 0) from rfl, bd_s, gd_t (sw_t 0 (by decide)).1, l1_s, (sw_t 0 (by decide)).2, if_pos (by decide +kernel)]
  try simp (disch := omega) only [K3, L0, L1, L2, gd_n, ix_n, bd_id]
theorem ca_0 (ν : Mm) : f_X5_carryOut KF ν 9 0 3 = f_X5_newHead KF ν 9 (ν.1 3 0) := by
  unfold f_X5_carryOut
  rw [show f_Jx29ce0_ordinal_8abf5 0 = some (nI 0) from rfl, bd_s, gd_t (sw_t 0 (by decide)).1, l1_s, (sw_t 0 (by decide)).2, if_pos (by decide +kernel)]
  simp (disch := omega) only [K3, L0, L1, L2, gd_n, ix_n, bd_id]
theorem md_0 {η : Mm} (hR : RF η) (h9 : η.1 139 9 = nI 0) : f_X8_does KF η 139 = f_X8_begin KF η 139 (η.1 144 0) := by
  unfold f_X8_does
  rw [l1_s, h9, if_pos (by decide +kernel)]
  simp (disch := omega) only [r_m10 hR, bd_s, K144, L0, L1, L2, gd_n, ix_n, bd_id]
theorem cw_1 (μ : Mm) : f_X5_whyNotCarryOut KF μ 9 1 3 = bd (f_X5_whyNotNewLabel KF μ 9 (μ.1 3 0) (μ.1 3 1)) fun x => some (x, μ) := by
  unfold f_X5_whyNotCarryOut
  rw [show f_Jx29ce0_ordinal_8abf5 1 = some (nI 1) from rfl, bd_s, gd_t (sw_t 1 (by decide)).1, l1_s, (sw_t 1 (by decide)).2, if_neg (by decide +kernel), if_pos (by decide +kernel)]
  try simp (disch := omega) only [K3, L0, L1, L2, gd_n, ix_n, bd_id]
theorem ca_1 (ν : Mm) : f_X5_carryOut KF ν 9 1 3 = f_X5_newLabel KF ν 9 (ν.1 3 0) (ν.1 3 1) := by
  unfold f_X5_carryOut
  rw [show f_Jx29ce0_ordinal_8abf5 1 = some (nI 1) from rfl, bd_s, gd_t (sw_t 1 (by decide)).1, l1_s, (sw_t 1 (by decide)).2, if_neg (by decide +kernel), if_pos (by decide +kernel)]
  simp (disch := omega) only [K3, L0, L1, L2, gd_n, ix_n, bd_id]
theorem md_1 {η : Mm} (hR : RF η) (h9 : η.1 139 9 = nI 1) : f_X8_does KF η 139 = f_X8_addLabel KF η 139 (η.1 144 0) (η.1 144 1) := by
  unfold f_X8_does
  rw [l1_s, h9, if_neg (by decide +kernel), if_pos (by decide +kernel)]
  simp (disch := omega) only [r_m10 hR, bd_s, K144, L0, L1, L2, gd_n, ix_n, bd_id]
theorem cw_2 (μ : Mm) : f_X5_whyNotCarryOut KF μ 9 2 3 = bd (f_X5_whyNotChangeRow KF μ 9 (μ.1 3 0) (μ.1 3 1) (μ.1 3 2)) fun x => some (x, μ) := by
  unfold f_X5_whyNotCarryOut
  rw [show f_Jx29ce0_ordinal_8abf5 2 = some (nI 2) from rfl, bd_s, gd_t (sw_t 2 (by decide)).1, l1_s, (sw_t 2 (by decide)).2, if_neg (by decide +kernel), if_neg (by decide +kernel), if_pos (by decide +kernel)]
  try simp (disch := omega) only [K3, L0, L1, L2, gd_n, ix_n, bd_id]
theorem ca_2 (ν : Mm) : f_X5_carryOut KF ν 9 2 3 = f_X5_changeRow KF ν 9 (ν.1 3 0) (ν.1 3 1) (ν.1 3 2) := by
  unfold f_X5_carryOut
  rw [show f_Jx29ce0_ordinal_8abf5 2 = some (nI 2) from rfl, bd_s, gd_t (sw_t 2 (by decide)).1, l1_s, (sw_t 2 (by decide)).2, if_neg (by decide +kernel), if_neg (by decide +kernel), if_pos (by decide +kernel)]
  simp (disch := omega) only [K3, L0, L1, L2, gd_n, ix_n, bd_id]
theorem md_2 {η : Mm} (hR : RF η) (h9 : η.1 139 9 = nI 2) : f_X8_does KF η 139 = f_X8_setRow KF η 139 (η.1 144 0) (η.1 144 1) (η.1 144 2) := by
  unfold f_X8_does
  rw [l1_s, h9, if_neg (by decide +kernel), if_neg (by decide +kernel), if_pos (by decide +kernel)]
  simp (disch := omega) only [r_m10 hR, bd_s, K144, L0, L1, L2, gd_n, ix_n, bd_id]
theorem cw_3 (μ : Mm) : f_X5_whyNotCarryOut KF μ 9 3 3 = bd (f_X5_whyNotNewCustomer KF μ 9) fun x => some (x, μ) := by
  unfold f_X5_whyNotCarryOut
  rw [show f_Jx29ce0_ordinal_8abf5 3 = some (nI 3) from rfl, bd_s, gd_t (sw_t 3 (by decide)).1, l1_s, (sw_t 3 (by decide)).2, if_neg (by decide +kernel), if_neg (by decide +kernel), if_neg (by decide +kernel), if_pos (by decide +kernel)]
  try simp (disch := omega) only [K3, L0, L1, L2, gd_n, ix_n, bd_id]
theorem ca_3 (ν : Mm) : f_X5_carryOut KF ν 9 3 3 = f_X5_newCustomer KF ν 9 := by
  unfold f_X5_carryOut
  rw [show f_Jx29ce0_ordinal_8abf5 3 = some (nI 3) from rfl, bd_s, gd_t (sw_t 3 (by decide)).1, l1_s, (sw_t 3 (by decide)).2, if_neg (by decide +kernel), if_neg (by decide +kernel), if_neg (by decide +kernel), if_pos (by decide +kernel)]
  simp (disch := omega) only [K3, L0, L1, L2, gd_n, ix_n, bd_id]
theorem md_3 {η : Mm} (hR : RF η) (h9 : η.1 139 9 = nI 3) : f_X8_does KF η 139 = f_X8_addCustomer KF η 139 := by
  unfold f_X8_does
  rw [l1_s, h9, if_neg (by decide +kernel), if_neg (by decide +kernel), if_neg (by decide +kernel), if_pos (by decide +kernel)]
  simp (disch := omega) only [r_m10 hR, bd_s, K144, L0, L1, L2, gd_n, ix_n, bd_id]
theorem cw_4 (μ : Mm) : f_X5_whyNotCarryOut KF μ 9 4 3 = bd (f_X5_whyNotLet KF μ 9 (μ.1 3 0) (μ.1 3 1) (μ.1 3 2)) fun x => some (x, μ) := by
  unfold f_X5_whyNotCarryOut
  rw [show f_Jx29ce0_ordinal_8abf5 4 = some (nI 4) from rfl, bd_s, gd_t (sw_t 4 (by decide)).1, l1_s, (sw_t 4 (by decide)).2, if_neg (by decide +kernel), if_neg (by decide +kernel), if_neg (by decide +kernel), if_neg (by decide +kernel), if_pos (by decide +kernel)]
  try simp (disch := omega) only [K3, L0, L1, L2, gd_n, ix_n, bd_id]
theorem ca_4 (ν : Mm) : f_X5_carryOut KF ν 9 4 3 = f_X5_let KF ν 9 (ν.1 3 0) (ν.1 3 1) (ν.1 3 2) := by
  unfold f_X5_carryOut
  rw [show f_Jx29ce0_ordinal_8abf5 4 = some (nI 4) from rfl, bd_s, gd_t (sw_t 4 (by decide)).1, l1_s, (sw_t 4 (by decide)).2, if_neg (by decide +kernel), if_neg (by decide +kernel), if_neg (by decide +kernel), if_neg (by decide +kernel), if_pos (by decide +kernel)]
  simp (disch := omega) only [K3, L0, L1, L2, gd_n, ix_n, bd_id]
theorem md_4 {η : Mm} (hR : RF η) (h9 : η.1 139 9 = nI 4) : f_X8_does KF η 139 = f_X8_rent KF η 139 (η.1 144 0) (η.1 144 1) (η.1 144 2) := by
  unfold f_X8_does
  rw [l1_s, h9, if_neg (by decide +kernel), if_neg (by decide +kernel), if_neg (by decide +kernel), if_neg (by decide +kernel), if_pos (by decide +kernel)]
  simp (disch := omega) only [r_m10 hR, bd_s, K144, L0, L1, L2, gd_n, ix_n, bd_id]
theorem cw_5 (μ : Mm) : f_X5_whyNotCarryOut KF μ 9 5 3 = bd (f_X5_whyNotPrintAt KF μ 9 (μ.1 3 0) (μ.1 3 1) (μ.1 3 2)) fun x => some (x, μ) := by
  unfold f_X5_whyNotCarryOut
  rw [show f_Jx29ce0_ordinal_8abf5 5 = some (nI 5) from rfl, bd_s, gd_t (sw_t 5 (by decide)).1, l1_s, (sw_t 5 (by decide)).2, if_neg (by decide +kernel), if_neg (by decide +kernel), if_neg (by decide +kernel), if_neg (by decide +kernel), if_neg (by decide +kernel), if_pos (by decide +kernel)]
  try simp (disch := omega) only [K3, L0, L1, L2, gd_n, ix_n, bd_id]
theorem ca_5 (ν : Mm) : f_X5_carryOut KF ν 9 5 3 = f_X5_printAt KF ν 9 (ν.1 3 0) (ν.1 3 1) (ν.1 3 2) := by
  unfold f_X5_carryOut
  rw [show f_Jx29ce0_ordinal_8abf5 5 = some (nI 5) from rfl, bd_s, gd_t (sw_t 5 (by decide)).1, l1_s, (sw_t 5 (by decide)).2, if_neg (by decide +kernel), if_neg (by decide +kernel), if_neg (by decide +kernel), if_neg (by decide +kernel), if_neg (by decide +kernel), if_pos (by decide +kernel)]
  simp (disch := omega) only [K3, L0, L1, L2, gd_n, ix_n, bd_id]
theorem md_5 {η : Mm} (hR : RF η) (h9 : η.1 139 9 = nI 5) : f_X8_does KF η 139 = f_X8_print KF η 139 (η.1 144 0) (η.1 144 1) (η.1 144 2) := by
  unfold f_X8_does
  rw [l1_s, h9, if_neg (by decide +kernel), if_neg (by decide +kernel), if_neg (by decide +kernel), if_neg (by decide +kernel), if_neg (by decide +kernel), if_pos (by decide +kernel)]
  simp (disch := omega) only [r_m10 hR, bd_s, K144, L0, L1, L2, gd_n, ix_n, bd_id]
theorem cw_6 (μ : Mm) : f_X5_whyNotCarryOut KF μ 9 6 3 = f_X5_whyNotPrintAtBest KF μ 9 (μ.1 3 0) (μ.1 3 1) := by
  unfold f_X5_whyNotCarryOut
  rw [show f_Jx29ce0_ordinal_8abf5 6 = some (nI 6) from rfl, bd_s, gd_t (sw_t 6 (by decide)).1, l1_s, (sw_t 6 (by decide)).2, if_neg (by decide +kernel), if_neg (by decide +kernel), if_neg (by decide +kernel), if_neg (by decide +kernel), if_neg (by decide +kernel), if_neg (by decide +kernel), if_pos (by decide +kernel)]
  try simp (disch := omega) only [K3, L0, L1, L2, gd_n, ix_n, bd_id]
theorem ca_6 (ν : Mm) : f_X5_carryOut KF ν 9 6 3 = f_X5_printAtBest KF ν 9 (ν.1 3 0) (ν.1 3 1) := by
  unfold f_X5_carryOut
  rw [show f_Jx29ce0_ordinal_8abf5 6 = some (nI 6) from rfl, bd_s, gd_t (sw_t 6 (by decide)).1, l1_s, (sw_t 6 (by decide)).2, if_neg (by decide +kernel), if_neg (by decide +kernel), if_neg (by decide +kernel), if_neg (by decide +kernel), if_neg (by decide +kernel), if_neg (by decide +kernel), if_pos (by decide +kernel)]
  simp (disch := omega) only [K3, L0, L1, L2, gd_n, ix_n, bd_id]
theorem md_6 {η : Mm} (hR : RF η) (h9 : η.1 139 9 = nI 6) : f_X8_does KF η 139 = f_X8_printBest KF η 139 (η.1 144 0) (η.1 144 1) := by
  unfold f_X8_does
  rw [l1_s, h9, if_neg (by decide +kernel), if_neg (by decide +kernel), if_neg (by decide +kernel), if_neg (by decide +kernel), if_neg (by decide +kernel), if_neg (by decide +kernel), if_pos (by decide +kernel)]
  simp (disch := omega) only [r_m10 hR, bd_s, K144, L0, L1, L2, gd_n, ix_n, bd_id]
theorem cw_7 (μ : Mm) : f_X5_whyNotCarryOut KF μ 9 7 3 = bd (f_X5_whyNotPassLines 9 (μ.1 3 0)) fun x => some (x, μ) := by
  unfold f_X5_whyNotCarryOut
  rw [show f_Jx29ce0_ordinal_8abf5 7 = some (nI 7) from rfl, bd_s, gd_t (sw_t 7 (by decide)).1, l1_s, (sw_t 7 (by decide)).2, if_neg (by decide +kernel), if_neg (by decide +kernel), if_neg (by decide +kernel), if_neg (by decide +kernel), if_neg (by decide +kernel), if_neg (by decide +kernel), if_neg (by decide +kernel), if_pos (by decide +kernel)]
  try simp (disch := omega) only [K3, L0, L1, L2, gd_n, ix_n, bd_id]
theorem ca_7 (ν : Mm) : f_X5_carryOut KF ν 9 7 3 = f_X5_passLines KF ν 9 (ν.1 3 0) := by
  unfold f_X5_carryOut
  rw [show f_Jx29ce0_ordinal_8abf5 7 = some (nI 7) from rfl, bd_s, gd_t (sw_t 7 (by decide)).1, l1_s, (sw_t 7 (by decide)).2, if_neg (by decide +kernel), if_neg (by decide +kernel), if_neg (by decide +kernel), if_neg (by decide +kernel), if_neg (by decide +kernel), if_neg (by decide +kernel), if_neg (by decide +kernel), if_pos (by decide +kernel)]
  simp (disch := omega) only [K3, L0, L1, L2, gd_n, ix_n, bd_id]
theorem md_7 {η : Mm} (hR : RF η) (h9 : η.1 139 9 = nI 7) : f_X8_does KF η 139 = f_X8_cool KF η 139 (η.1 144 0) := by
  unfold f_X8_does
  rw [l1_s, h9, if_neg (by decide +kernel), if_neg (by decide +kernel), if_neg (by decide +kernel), if_neg (by decide +kernel), if_neg (by decide +kernel), if_neg (by decide +kernel), if_neg (by decide +kernel), if_pos (by decide +kernel)]
  simp (disch := omega) only [r_m10 hR, bd_s, K144, L0, L1, L2, gd_n, ix_n, bd_id]
theorem cw_8 (μ : Mm) : f_X5_whyNotCarryOut KF μ 9 8 3 = bd (f_X5_whyNotNewDot KF μ 9 (μ.1 3 0)) fun x => some (x, μ) := by
  unfold f_X5_whyNotCarryOut
  rw [show f_Jx29ce0_ordinal_8abf5 8 = some (nI 8) from rfl, bd_s, gd_t (sw_t 8 (by decide)).1, l1_s, (sw_t 8 (by decide)).2, if_neg (by decide +kernel), if_neg (by decide +kernel), if_neg (by decide +kernel), if_neg (by decide +kernel), if_neg (by decide +kernel), if_neg (by decide +kernel), if_neg (by decide +kernel), if_neg (by decide +kernel), if_pos (by decide +kernel)]
  try simp (disch := omega) only [K3, L0, L1, L2, gd_n, ix_n, bd_id]
theorem ca_8 (ν : Mm) : f_X5_carryOut KF ν 9 8 3 = f_X5_newDot KF ν 9 (ν.1 3 0) := by
  unfold f_X5_carryOut
  rw [show f_Jx29ce0_ordinal_8abf5 8 = some (nI 8) from rfl, bd_s, gd_t (sw_t 8 (by decide)).1, l1_s, (sw_t 8 (by decide)).2, if_neg (by decide +kernel), if_neg (by decide +kernel), if_neg (by decide +kernel), if_neg (by decide +kernel), if_neg (by decide +kernel), if_neg (by decide +kernel), if_neg (by decide +kernel), if_neg (by decide +kernel), if_pos (by decide +kernel)]
  simp (disch := omega) only [K3, L0, L1, L2, gd_n, ix_n, bd_id]
theorem md_8 {η : Mm} (hR : RF η) (h9 : η.1 139 9 = nI 8) : f_X8_does KF η 139 = f_X8_replace KF η 139 (η.1 144 0) := by
  unfold f_X8_does
  rw [l1_s, h9, if_neg (by decide +kernel), if_neg (by decide +kernel), if_neg (by decide +kernel), if_neg (by decide +kernel), if_neg (by decide +kernel), if_neg (by decide +kernel), if_neg (by decide +kernel), if_neg (by decide +kernel), if_pos (by decide +kernel)]
  simp (disch := omega) only [r_m10 hR, bd_s, K144, L0, L1, L2, gd_n, ix_n, bd_id]
theorem cw_9 (μ : Mm) : f_X5_whyNotCarryOut KF μ 9 9 3 = bd (f_X5_whyNotChangeSetting KF μ 9 (μ.1 3 0) (μ.1 3 1)) fun x => some (x, μ) := by
  unfold f_X5_whyNotCarryOut
  rw [show f_Jx29ce0_ordinal_8abf5 9 = some (nI 9) from rfl, bd_s, gd_t (sw_t 9 (by decide)).1, l1_s, (sw_t 9 (by decide)).2, if_neg (by decide +kernel), if_neg (by decide +kernel), if_neg (by decide +kernel), if_neg (by decide +kernel), if_neg (by decide +kernel), if_neg (by decide +kernel), if_neg (by decide +kernel), if_neg (by decide +kernel), if_neg (by decide +kernel)]
  try simp (disch := omega) only [K3, L0, L1, L2, gd_n, ix_n, bd_id]
theorem ca_9 (ν : Mm) : f_X5_carryOut KF ν 9 9 3 = f_X5_changeSetting KF ν 9 (ν.1 3 0) (ν.1 3 1) := by
  unfold f_X5_carryOut
  rw [show f_Jx29ce0_ordinal_8abf5 9 = some (nI 9) from rfl, bd_s, gd_t (sw_t 9 (by decide)).1, l1_s, (sw_t 9 (by decide)).2, if_neg (by decide +kernel), if_neg (by decide +kernel), if_neg (by decide +kernel), if_neg (by decide +kernel), if_neg (by decide +kernel), if_neg (by decide +kernel), if_neg (by decide +kernel), if_neg (by decide +kernel), if_neg (by decide +kernel)]
  simp (disch := omega) only [K3, L0, L1, L2, gd_n, ix_n, bd_id]
theorem md_9 {η : Mm} (hR : RF η) (h9 : η.1 139 9 = nI 9) : f_X8_does KF η 139 = f_X8_set KF η 139 (η.1 144 0) (η.1 144 1) := by
  unfold f_X8_does
  rw [l1_s, h9, if_neg (by decide +kernel), if_neg (by decide +kernel), if_neg (by decide +kernel), if_neg (by decide +kernel), if_neg (by decide +kernel), if_neg (by decide +kernel), if_neg (by decide +kernel), if_neg (by decide +kernel), if_neg (by decide +kernel)]
  simp (disch := omega) only [r_m10 hR, bd_s, K144, L0, L1, L2, gd_n, ix_n, bd_id]
theorem fn3 {μ ν : Mm} (h : FN μ ν) : ν.1 3 = μ.1 3 := h.2 3 (fun e => by have e : 5 ≤ 3 ∧ 3 ≤ 34 := e; omega)
theorem b_does {D L C i : Nat} {μ η : Mm} (h : CR D L C μ η) (h4 : η.1 139 4 = 1) (hi : i < 10) (h9 : η.1 139 9 = nI i) (hn : ∀ x, x < cnt i → μ.1 3 x = η.1 144 x) : RW μ η (f_X5_whyNotCarryOut KF μ 9 i 3) (fun ν => f_X5_carryOut KF ν 9 i 3) (f_X8_does KF η 139) := by
  obtain ⟨t0, t1, t2, t3, t4, t5, t6, t7, t8, t9⟩ := cnt_t
  rcases (show i = 0 ∨ i = 1 ∨ i = 2 ∨ i = 3 ∨ i = 4 ∨ i = 5 ∨ i = 6 ∨ i = 7 ∨ i = 8 ∨ i = 9 by omega) with rfl | rfl | rfl | rfl | rfl | rfl | rfl | rfl | rfl | rfl
  · exact RW.cv (OP.rw h h4 (by decide) (o_begin h (μ.1 3 0))) (cw_0 μ) (fun ν f => by rw [ca_0, fn3 f]) (by rw [md_0 h.2.1 h9, ← hn 0 (by omega)])
  · exact RW.cv (OP.rw h h4 (by decide) (o_addLabel h (μ.1 3 0) (μ.1 3 1))) (cw_1 μ) (fun ν f => by rw [ca_1, fn3 f]) (by rw [md_1 h.2.1 h9, ← hn 0 (by omega), ← hn 1 (by omega)])
  · exact RW.cv (OP.rw h h4 (by decide) (o_setRow h (μ.1 3 0) (μ.1 3 1) (μ.1 3 2))) (cw_2 μ) (fun ν f => by rw [ca_2, fn3 f]) (by rw [md_2 h.2.1 h9, ← hn 0 (by omega), ← hn 1 (by omega), ← hn 2 (by omega)])
  · exact RW.cv (OP.rw h h4 (by decide) (o_addCustomer h)) (cw_3 μ) (fun ν f => by rw [ca_3]) (by rw [md_3 h.2.1 h9])
  · exact RW.cv (OP.rw h h4 (by decide) (o_rent h (μ.1 3 0) (μ.1 3 1) (μ.1 3 2))) (cw_4 μ) (fun ν f => by rw [ca_4, fn3 f]) (by rw [md_4 h.2.1 h9, ← hn 0 (by omega), ← hn 1 (by omega), ← hn 2 (by omega)])
  · exact RW.cv (OP.rw h h4 (by decide) (o_print h (μ.1 3 0) (μ.1 3 1) (μ.1 3 2))) (cw_5 μ) (fun ν f => by rw [ca_5, fn3 f]) (by rw [md_5 h.2.1 h9, ← hn 0 (by omega), ← hn 1 (by omega), ← hn 2 (by omega)])
  · exact RW.cv (OPB.rw h h4 (by decide) (o_printBest h (μ.1 3 0) (μ.1 3 1))) (cw_6 μ) (fun ν f => by rw [ca_6, fn3 f]) (by rw [md_6 h.2.1 h9, ← hn 0 (by omega), ← hn 1 (by omega)])
  · exact RW.cv (OP.rw h h4 (by decide) (o_cool h (μ.1 3 0))) (cw_7 μ) (fun ν f => by rw [ca_7, fn3 f]) (by rw [md_7 h.2.1 h9, ← hn 0 (by omega)])
  · exact RW.cv (OP.rw h h4 (by decide) (o_replace h (μ.1 3 0))) (cw_8 μ) (fun ν f => by rw [ca_8, fn3 f]) (by rw [md_8 h.2.1 h9, ← hn 0 (by omega)])
  · exact RW.cv (OP.rw h h4 (by decide) (o_set h (μ.1 3 0) (μ.1 3 1))) (cw_9 μ) (fun ν f => by rw [ca_9, fn3 f]) (by rw [md_9 h.2.1 h9, ← hn 0 (by omega), ← hn 1 (by omega)])
/-- what a run changes -/
def LF (μ μ' : Mm) : Prop := (∀ a, a ≠ 1 → a ≠ 3 → ¬ (5 ≤ a ∧ a ≤ 34) → μ'.1 a = μ.1 a) ∧ (∀ j, j ≠ 2 → j ≠ 3 → μ'.1 1 j = μ.1 1 j) ∧ (∀ k j, (k ≠ 1 ∨ j ≠ 4) → μ'.2.1 k j = μ.2.1 k j) ∧ μ'.2.2 = μ.2.2
def LG (η η' : Mm) : Prop := (∀ a, a ≠ 139 → a ≠ 140 → a ≠ 141 → a ≠ 144 → η'.1 a = η.1 a) ∧ (∀ j, j ≠ 7 → j ≠ 8 → j ≠ 9 → η'.1 139 j = η.1 139 j) ∧ η'.2 = η.2
theorem LF.trans {μ μ' μ'' : Mm} (h : LF μ μ') (h' : LF μ' μ'') : LF μ μ'' := ⟨fun a b c d => (h'.1 a b c d).trans (h.1 a b c d), fun j b c => (h'.2.1 j b c).trans (h.2.1 j b c), fun k j b => (h'.2.2.1 k j b).trans (h.2.2.1 k j b), h'.2.2.2.trans h.2.2.2⟩
theorem LG.trans {μ μ' μ'' : Mm} (h : LG μ μ') (h' : LG μ' μ'') : LG μ μ'' := ⟨fun a b c d e => (h'.1 a b c d e).trans (h.1 a b c d e), fun j b c d => (h'.2.1 j b c d).trans (h.2.1 j b c d), h'.2.2.trans h.2.2⟩
theorem PF.lf {μ μ' : Mm} (h : PF μ μ') : LF μ μ' := ⟨fun a b c _ => h.1 a b c, h.2.1, h.2.2.1, h.2.2.2⟩
theorem QF.lg {η η' : Mm} (h : QF η η') : LG η η' := ⟨fun a b _ _ c => h.1 a b c, fun j _ b c => h.2.1 j b c, h.2.2⟩
theorem FN.lf {μ μ' : Mm} (h : FN μ μ') : LF μ μ' := ⟨fun a _ _ c => h.2 a c, fun j _ _ => by rw [h.2 1 (fun e => by have e : 5 ≤ 1 ∧ 1 ≤ 34 := e; omega)], fun k j _ => by rw [h.1], by rw [h.1]⟩
theorem RG.lg {η η' : Mm} (h : RG η η') : LG η η' := ⟨fun a b c d _ => h.1 a b c d, fun j b _ _ => h.2.1 j b, h.2.2⟩
theorem HC.lf {m : Nat} {T : Nat → Int32} {μ μ' : Mm} (h : HC m T μ) (f : LF μ μ') : HC m T μ' :=
  ⟨h.1.cg (fun k j _ hj => f.2.2.1 k j hj), (f.2.1 1 (by omega) (by omega)).trans h.2.1, h.2.2.1, fun j hj => by rw [f.1 2 (by omega) (by omega) (by omega)]; exact h.2.2.2 j hj⟩
theorem HM.lg {m : Nat} {T : Nat → Int32} {η η' : Mm} (h : HM m T η) (f : LG η η') : HM m T η' :=
  ⟨h.1.cg (fun k j _ _ => by rw [f.2.2]), (f.2.1 6 (by omega) (by omega) (by omega)).trans h.2.1, h.2.2.1, fun j hj => by rw [f.1 143 (by omega) (by omega) (by omega) (by omega)]; exact h.2.2.2 j hj⟩
theorem CR.pq {D L C : Nat} {μ η μ' η' : Mm} (h : CR D L C μ η) (f : PF μ μ') (g : QF η η') : CR D L C μ' η' :=
  h.cg (h.1.cg (fun k j _ hj => f.2.2.1 k j hj)) (h.2.1.cg (fun k j _ _ => by rw [g.2.2])) (fun a _ _ => f.1 a (by omega) (by omega)) (fun j _ => by rw [g.1 140 (by omega) (by omega)])
theorem b_runL {m : Nat} {T : Nat → Int32} : ∀ k d, k + d = 150 → ∀ n n' μ η p' p D L C, k + 2 < n → k + 3 < n' → HC m T μ → HM m T η → μ.1 1 2 = nI p' → η.1 139 8 = nI p → SE T m 32 32 p' p → d ≤ p' → CR D L C μ η → η.1 139 4 = 1 →
    ∃ v μ' η' D' L' C', f_X7_runCommands_l31 KF 0 n μ (nI d) = some (v, μ') ∧ f_X8_runCommands_l42 KF 139 n' η (nI d) 1 = some (v, η') ∧ CR D' L' C' μ' η' ∧ LF μ μ' ∧ LG η η' := by
  intro k
  induction k with
  | zero =>
    intro d hd n n' μ η p' p D L C hn hn' h h' hp hq s hdp hc h4
    obtain ⟨n, rfl⟩ : ∃ k, n = k + 1 := ⟨n - 1, by omega⟩
    obtain ⟨n', rfl⟩ : ∃ k, n' = k + 1 := ⟨n' - 1, by omega⟩
    have h150 := h.2.2.1
    have hpm := s.1
    have e : d = 150 := by omega
    subst e
    refine ⟨nI 150, μ, η, D, L, C, ?_, ?_, hc, PF.rf.lf, QF.rf.lg⟩
    · simp only [f_X7_runCommands_l31, if_pos (show (150 : Int32) ≤ nI 150 by decide +kernel)]
    · have q : m ≤ p := by omega
      simp (disch := omega) only [f_X8_runCommands_l42, h'.2.1, hq, leN, if_pos q, i10]
  | succ k ih =>
    intro d hd n n' μ η p' p D L C hn hn' h h' hp hq s hdp hc h4
    obtain ⟨n, rfl⟩ : ∃ k, n = k + 1 := ⟨n - 1, by omega⟩
    obtain ⟨n', rfl⟩ : ∃ k, n' = k + 1 := ⟨n' - 1, by omega⟩
    have h150 := h.2.2.1
    have hpm := s.1
    have nd : ¬ (150 : Int32) ≤ nI d := by
      rw [show (150 : Int32) = nI 150 from rfl, leN (by omega) (by omega)]
      omega
    have stop : ∀ (v : Int32) ν, f_X8_runCommands_l42 KF 139 n' ν v 0 = some (v, ν) := fun v ν => by
      obtain ⟨n', rfl⟩ : ∃ k, n' = k + 1 := ⟨n' - 1, by omega⟩
      simp only [f_X8_runCommands_l42, if_true]
    rcases b_read h h' hp hq s with ⟨pm, μ', e1, f1, g1⟩ | ⟨pm, x, μ', η', e1, e2, f1, f2, cx⟩
    · refine ⟨nI d, μ', η, D, L, C, ?_, ?_, hc.pq f1 QF.rf, f1.lf, QF.rf.lg⟩
      · simp only [f_X7_runCommands_l31, if_neg nd, r_00 h.1, bd_s, e1, l1_s, if_true]
      · have q : m ≤ p := by omega
        simp (disch := omega) only [f_X8_runCommands_l42, h'.2.1, hq, leN, if_pos q, i10]
    · have q : ¬ m ≤ p := by omega
      have hc' := hc.pq f1 f2
      rcases cx with ⟨rfl, -⟩ | ⟨rfl, g1, r, q', i, r1, r2, r3, r4, hi, rw, r9, rn⟩
      · refine ⟨nI d, μ', η', D, L, C, ?_, ?_, hc', f1.lf, f2.lg⟩
        · simp only [f_X7_runCommands_l31, if_neg nd, r_00 h.1, bd_s, e1, l1_s, if_true]
        · simp (disch := omega) only [f_X8_runCommands_l42, h'.2.1, hq, leN, if_neg q, i10, e2, bd_s, l1_s, if_true, Int32.add_zero, stop]
      · have h1 := h.pf f1
        have h1' := h'.qf f2
        have x4 : η'.1 139 4 = 1 := (f2.2.1 4 (by omega) (by omega)).trans h4
        have eC : f_X7_runCommands_l31 KF 0 (n + 1) μ (nI d) = bd (f_X5_whyNotCarryOut KF μ' 9 i 3) fun q22 => lt1 q22.1 fun x24 => lt1 q22.2 fun μ23 => if x24 = 0 then (bd (rf KF μ23 0 3 4) fun b26 => bd (rf KF μ23 0 0 0) fun b27 => bd (rfW μ23 b27 4) fun b28 => bd (rf KF μ23 0 0 0) fun b29 => bd (rf KF μ23 b29 5 8) fun b30 => bd (f_X5_carryOut KF μ23 b26 b28 b30) fun q31 => lt1 q31.1 fun x33 => lt1 q31.2 fun μ32 => lt1 (α := Int32) (nI d + 1) fun x34 => f_X7_runCommands_l31 KF 0 n μ32 x34) else (some (nI d, μ23)) := by
          simp only [f_X7_runCommands_l31, if_neg nd, r_00 h.1, bd_s, e1, i10, r_03 h1.1, r_00 h1.1, rfW_s hi rw, r_15 h1.1, l1_s]
        have eR : f_X8_runCommands_l42 KF 139 (n' + 1) η (nI d) 1 = bd (f_X8_does KF η' 139) fun q20 => lt1 q20.1 fun x22 => lt1 q20.2 fun μ21 => if x22 < 0 then (lt1 (α := Int32) (nI d + 0) fun x25 => f_X8_runCommands_l42 KF 139 n' μ21 x25 0) else (lt1 (α := Int32) (if (μ21.1 139 7) = 0 then 1 else 0) fun x26 => lt1 (α := Int32) (if x26 = 0 then 0 else 1) fun x28 => lt1 (α := Int32) (nI d + x28) fun x30 => f_X8_runCommands_l42 KF 139 n' μ21 x30 x26) := by
          simp (disch := omega) only [f_X8_runCommands_l42, h'.2.1, hq, leN, if_neg q, i10, e2, bd_s, l1_s]
        rcases b_does hc' x4 hi r9 rn with ⟨v, μ2, η2, D', L', C', y1, y2, y3, y4, y5, y6, y7⟩ | ⟨v, μ2, μ3, η3, D', L', C', y1, y2, y3, y4, y5, y6, y7, y8, y9⟩
        · refine ⟨nI d, μ2, η2, D', L', C', ?_, ?_, y5, f1.lf.trans y6.lf, f2.lg.trans y7.lg⟩
          · rw [eC, y1, bd_s, l1_s, l1_s, if_neg y2]
          · rw [eR, y3, bd_s, l1_s, l1_s, if_neg (show ¬ (0 : Int32) < 0 by decide), if_neg y4, l1_s, if_pos rfl, l1_s, l1_s, Int32.add_zero, stop]
        · have h2 : RF μ2 := h1.1.fr y2
          have l3 : LF μ μ3 := f1.lf.trans y8.lf
          have g3 : LG η η3 := f2.lg.trans y9.lg
          have rw2 : μ2.2.1 1 4 = some (2000 + i) := by rw [y2.1]; exact rw
          have p1 : μ3.1 1 = μ'.1 1 := y8.2 1 (fun e => by have e : 5 ≤ 1 ∧ 1 ≤ 34 := e; omega)
          obtain ⟨w, μ4, η4, D2, L2, C2, z1, z2, z3, z4, z5⟩ := ih (d + 1) (by omega) n n' μ3 η3 r q' D' L' C' (by omega) (by omega) (h.lf l3) (h'.lg g3) (by rw [p1]; exact r2) ((y9.2.1 8 (by omega)).trans r3) r4 (by omega) y7 ((y9.2.1 4 (by omega)).trans x4)
          refine ⟨w, μ4, η4, D2, L2, C2, ?_, ?_, z3, l3.trans z4, g3.trans z5⟩
          · rw [eC, y1, bd_s, l1_s, l1_s, if_pos rfl, r_03 h2, bd_s, r_00 h2, bd_s, rfW_s hi rw2, bd_s, bd_s, r_15 h2, bd_s, show f_X5_carryOut KF μ2 9 i 3 = some (v, μ3) from y3, bd_s, l1_s, l1_s, l1_s, nI_1]
            exact z1
          · rw [eR, y4, bd_s, l1_s, l1_s, if_neg y5, y6, if_pos rfl, l1_s, if_neg (show ¬ (1 : Int32) = 0 by decide), l1_s, l1_s, nI_1]
            exact z2
theorem b_run {μ η : Mm} (h : IV μ η) : ∃ v μ' η', f_X7_runCommands KF μ 0 = some (v, μ') ∧ f_X8_runCommands KF η 139 = some (v, η') ∧ IV μ' η' ∧ η'.1 139 7 = 0 ∧ CF μ μ' ∧ MF η η' := by
  obtain ⟨D, L, C, n, m, hc, hs, ht, h4⟩ := h
  let η1 := sI η 139 7 0
  have hc1 : CR D L C μ η1 := hc.s7 0
  have hs1 : SV n μ η1 := hs.s7 0
  have ht1 : TX m μ η1 := ht.s7 0
  have h41 : η1.1 139 4 = 0 := (sI_of (by omega)).trans h4
  have hC : HC m (η1.1 143) μ := ⟨hc.1, ht1.1.1, ht1.1.2.2, fun j hj => (ht1.2 j hj).1⟩
  have hM : HM m (η1.1 143) η1 := ⟨hc1.2.1, ht1.1.2.1, ht1.1.2.2, fun j hj => ⟨rfl, (ht1.2 j hj).2⟩⟩
  obtain ⟨v, μ3, η3, e1, e2, f1, f2, cv⟩ := b_fault hC hM
  have hc3 := hc1.pq f1 f2
  have hs3 : SV n μ3 η3 := hs1.cg (by rw [f1.1 0 (by omega) (by omega)]) (by funext j; exact f1.2.2.1 4 j (by omega)) (fun a ha _ => f1.1 a (by omega) (by omega)) (f2.2.1 3 (by omega) (by omega)) (f2.1 142 (by omega) (by omega))
  have ht3 : TX m μ3 η3 := ht1.cg (f1.2.1 1 (by omega) (by omega)) (f1.1 2 (by omega) (by omega)) (f2.2.1 6 (by omega) (by omega)) (f2.1 143 (by omega) (by omega))
  have h43 : η3.1 139 4 = 0 := (f2.2.1 4 (by omega) (by omega)).trans h41
  by_cases c : v = -1
  · obtain ⟨n', μ7, η7, e3, e4, hc7, hs7, f3, f4⟩ := b_save hc3 hs3 h43
    have r139 : ∀ j, j ≠ 3 → η7.1 139 j = η3.1 139 j := f4.2
    have rr : ∀ a, ¬ (a = 139 ∨ a = 142) → η7.1 a = η3.1 a := fun a ha => f4.1.2 a ha
    have ht7 : TX m μ7 η7 := ht3.cg (by rw [f3.1 1 (by omega)]) (f3.1 2 (by omega)) (r139 6 (by omega)) (rr 143 (by omega))
    let μ8 := sI (sI μ7 1 2 0) 1 3 (-1)
    have g8 : PF μ7 μ8 := (PF.rf.s1 (Or.inl rfl)).s1 (Or.inr rfl)
    let η8 := sI (sI η7 139 4 1) 139 8 0
    have k8 : ∀ a, a ≠ 139 → η8.1 a = η7.1 a := fun a ha => (sI_rw ha).trans (sI_rw ha)
    have j8 : ∀ j, j ≠ 4 → j ≠ 8 → η8.1 139 j = η7.1 139 j := fun j h1 h2 => (sI_of h2).trans (sI_of h1)
    have hC8 : HC m (η7.1 143) μ8 := HC.pf ⟨hc7.1, ht7.1.1, ht7.1.2.2, fun j hj => (ht7.2 j hj).1⟩ g8
    have hM8 : HM m (η7.1 143) η8 := ⟨hc7.2.1, (j8 6 (by omega) (by omega)).trans ht7.1.2.1, ht7.1.2.2, fun j hj => ⟨by rw [k8 143 (by omega)], (ht7.2 j hj).2⟩⟩
    have hc8 : CR D L C μ8 η8 := hc7.cg hC8.1 hM8.1 (fun a _ _ => g8.1 a (by omega) (by omega)) (fun j _ => by rw [k8 140 (by omega)])
    obtain ⟨p, η9, e5, f5, g5, s5⟩ := m_skips hM8 (p := 0) (show η8.1 139 8 = nI 0 from sI_at) (by omega)
    have hc9 : CR D L C μ8 η9 := hc8.pq PF.rf f5
    have x4 : η9.1 139 4 = 1 := (f5.2.1 4 (by omega) (by omega)).trans ((sI_of (by omega)).trans sI_at)
    obtain ⟨w, μ10, η10, D', L', C', y1, y2, y3, y4, y5⟩ := b_runL 150 0 (by omega) FU FU μ8 η9 0 p D L C (by unfold FU; omega) (by unfold FU; omega) hC8 (hM8.qf f5) (show μ8.1 1 2 = nI 0 from (sI_of (by omega)).trans sI_at) g5.1 s5 (by omega) hc9 x4
    let η11 := sI (sI η10 139 4 0) 139 7 0
    have k11 : ∀ a, a ≠ 139 → η11.1 a = η10.1 a := fun a ha => (sI_rw ha).trans (sI_rw ha)
    have j11 : ∀ j, j ≠ 4 → j ≠ 7 → η11.1 139 j = η10.1 139 j := fun j h1 h2 => (sI_of h2).trans (sI_of h1)
    have l10 : LF μ7 μ10 := g8.lf.trans y4
    have K : ∀ a, a ≠ 139 → a ≠ 140 → a ≠ 141 → a ≠ 144 → η11.1 a = η7.1 a := fun a h1 h2 h3 h5 => (k11 a h1).trans ((y5.1 a h1 h2 h3 h5).trans ((f5.1 a h1 h5).trans (k8 a h1)))
    have J : ∀ j, j ≠ 4 → j ≠ 7 → j ≠ 8 → j ≠ 9 → η11.1 139 j = η7.1 139 j := fun j h1 h2 h3 h5 => (j11 j h1 h2).trans ((y5.2.1 j h2 h3 h5).trans ((f5.2.1 j h3 h5).trans (j8 j h1 h3)))
    have e11 : η11.2 = η3.2 := y5.2.2.trans (f5.2.2.trans f4.1.1)
    refine ⟨w, μ10, η11, ?_, ?_, ⟨D', L', C', n', m, y3.cg y3.1 y3.2.1 (fun _ _ _ => rfl) (fun j _ => by rw [k11 140 (by omega)]), hs7.cg (by rw [l10.1 0 (by omega) (by omega) (by omega)]) (by funext j; exact l10.2.2.1 4 j (by omega)) (fun a ha _ => l10.1 a (by omega) (by omega) (by omega)) (J 3 (by omega) (by omega) (by omega) (by omega)) (K 142 (by omega) (by omega) (by omega) (by omega)), ht7.cg (l10.2.1 1 (by omega) (by omega)) (l10.1 2 (by omega) (by omega) (by omega)) (J 6 (by omega) (by omega) (by omega) (by omega)) (K 143 (by omega) (by omega) (by omega) (by omega)), (sI_of (by omega)).trans sI_at⟩, sI_at, ⟨fun a ha => ?_, fun a h1 h2 => ?_, ?_⟩, ⟨fun a ha => ?_, e11.trans f2.2.2⟩⟩
    · unfold f_X7_runCommands
      rw [r_00 hc.1, bd_s, e1, bd_s, l1_s, l1_s, if_pos c, e3, bd_s, r_00 hc7.1, bd_s, show f_X1_rewind KF μ7 1 = some μ8 from rfl, bd_s, show f_X7_runCommands_l31 KF 0 FU μ8 0 = some (w, μ10) from y1, bd_s, l1_s, l1_s]
    · unfold f_X8_runCommands
      rw [l1_s, show f_X8_fault KF (sI η 139 7 0) 139 = some (v, η3) from e2, bd_s, l1_s, l1_s, if_pos c, e4, bd_s, l1_s, l1_s, show f_X8_skips KF (sI (sI η7 139 4 1) 139 8 0) 139 = some η9 from e5, bd_s, show f_X8_runCommands_l42 KF 139 FU η9 0 1 = some (w, η10) from y2, bd_s, l1_s, l1_s, l1_s, l1_s]
    · rw [l10.1 a (by omega) (by omega) (by omega), f3.1 a (by omega), f1.1 a (by omega) (by omega)]
    · rw [show μ10.2.1 a = μ7.2.1 a from funext fun j => l10.2.2.1 a j (Or.inl h2), f3.2.1 a h1]
      exact funext fun j => f1.2.2.1 a j (Or.inl h2)
    · rw [l10.2.2.2, f3.2.2, f1.2.2.2]
    · rw [K a (by omega) (by omega) (by omega) (by omega), rr a (by omega), f2.1 a (by omega) (by omega)]
      exact sI_rw (by omega)
  · refine ⟨-10 - v, μ3, η3, ?_, ?_, ⟨D, L, C, n, m, hc3, hs3, ht3, h43⟩, (f2.2.1 7 (by omega) (by omega)).trans sI_at, ⟨fun a ha => f1.1 a (by omega) (by omega), fun a h1 h2 => funext fun j => f1.2.2.1 a j (Or.inl h2), f1.2.2.2⟩, ⟨fun a ha => (f2.1 a (by omega) (by omega)).trans (sI_rw (by omega)), f2.2.2⟩⟩
    · unfold f_X7_runCommands
      rw [r_00 hc.1, bd_s, e1, bd_s, l1_s, l1_s, if_neg c]
    · unfold f_X8_runCommands
      rw [l1_s, show f_X8_fault KF (sI η 139 7 0) 139 = some (v, η3) from e2, bd_s, l1_s, l1_s, if_neg c]
end PureP7
