/-! PURE: values -/
section PureH
theorem j6 {j : Nat} (h : j < 6) : j = 0 ∨ j = 1 ∨ j = 2 ∨ j = 3 ∨ j = 4 ∨ j = 5 := by omega
theorem and_not (a u x : Int32) : (a &&& (u ^^^ (-1))) &&& (x ^^^ (-1)) = a &&& ((u ||| x) ^^^ (-1)) := by
  have e : ∀ y : Int32, y ^^^ (-1) = ~~~ y := fun y => by rw [Int32.xor_neg_one]
  have o : ~~~ (u ||| x) = ~~~ u &&& ~~~ x := Int32.toBitVec_inj.mp (by
    rw [Int32.toBitVec_and, Int32.toBitVec_not, Int32.toBitVec_not, Int32.toBitVec_not, Int32.toBitVec_or]
    ext i hi
    simp)
  rw [e, e, e, o, Int32.and_assoc]
theorem b_empty {D L C l : Nat} {μ η : Mm} (h : CR D L C μ η) (hl : l < L) : ∃ v, f_X4_emptyColumns KF μ (17 + 2 * l) = some v ∧ f_X8_empties KF η 139 (nI l) = some v := by
  obtain ⟨hR, hR2, hc, hw⟩ := h
  have hL := hw.2.1
  obtain ⟨a0, -, -, -⟩ := cpl_lab hc hl
  have hm0 := m_labelOf hR2 (l := l) (j := 0) (by omega) (by omega)
  simp only [Nat.add_zero] at hm0
  have hm0' : f_X8_labelOf KF η 139 (nI l) 0 = some (η.1 140 (86 + 10 * l)) := hm0
  obtain ⟨a, b, e1, e2, q⟩ := lpp (fun n r v => f_X4_emptyColumns_l4 KF μ (17 + 2 * l) n v (nI r)) (fun n r v => f_X8_empties_l13 KF η 139 (nI l) n v (nI r)) 6
    (fun r u x => x = ((1 <<< (η.1 140 (86 + 10 * l) &&& 31)) - 1) &&& (u ^^^ (-1))) (fun u x => x = ((1 <<< (η.1 140 (86 + 10 * l) &&& 31)) - 1) &&& (u ^^^ (-1)))
    (by
      intro n r u x hr hx
      refine Or.inr ⟨u ||| η.1 140 (86 + 10 * l + (2 + r)), x &&& (η.1 140 (86 + 10 * l + (2 + r)) ^^^ (-1)), ?_, ?_, ?_⟩
      · simp (disch := omega) only [f_X4_emptyColumns_l4, L6, leN, if_neg (Nat.not_le.mpr hr), bd_s, l1_s, r_row hR (show l < 6 by omega), K_row l (by omega), gd_n, ix_n, cpl_row hc hl hr, nI_succ r]
      · have hm := m_labelOf hR2 (l := l) (j := 2 + r) (by omega) (by omega)
        simp (disch := omega) only [f_X8_empties_l13, L6, L2, leN, if_neg (Nat.not_le.mpr hr), nI_add, hm, bd_s, l1_s, nI_succ r]
      · rw [hx, and_not])
    (by
      intro n u x hx
      refine ⟨u, x, ?_, ?_, hx⟩
      · simp (disch := omega) only [f_X4_emptyColumns_l4, L6, leN, if_pos (Nat.le_refl 6)]
      · simp (disch := omega) only [f_X8_empties_l13, L6, leN, if_pos (Nat.le_refl 6)]) 6 0 0 ((1 <<< (η.1 140 (86 + 10 * l) &&& 31)) - 1) FU (by omega) (by unfold FU; omega) (by
        rw [show (0 : Int32) ^^^ (-1) = -1 by decide, Int32.and_neg_one])
  refine ⟨b, ?_, ?_⟩
  · unfold f_X4_emptyColumns f_X4_allColumns
    rw [show f_X4_emptyColumns_l4 KF μ (17 + 2 * l) FU 0 0 = some a from e1, a0, q]
    rfl
  · unfold f_X8_empties
    rw [hm0']
    simp only [bd_s, l1_s]
    rw [show f_X8_empties_l13 KF η 139 (nI l) FU ((1 <<< (η.1 140 (86 + 10 * l) &&& 31)) - 1) 0 = some b from e2]
    rfl
theorem b_label {D L C l j : Nat} {μ η : Mm} (h : CR D L C μ η) (hl : l < L) (hj : j < 6) : ∃ v, f_X4_value KF μ (17 + 2 * l) (nI j) = some v ∧ f_X8_ofLabel KF η 139 (nI l) (nI j) = some v := by
  have h0 := h
  obtain ⟨hR, hR2, hc, hw⟩ := h
  have hL := hw.2.1
  obtain ⟨a0, a1, a2, a3⟩ := cpl_lab hc hl
  have hm : ∀ j, j < 10 → f_X8_labelOf KF η 139 (nI l) (nI j) = some (η.1 140 (86 + 10 * l + j)) := fun j hj => m_labelOf hR2 (by omega) hj
  rcases j6 hj with rfl | rfl | rfl | rfl | rfl | rfl
  · refine ⟨_, rfl, ?_⟩
    rw [show f_X8_ofLabel KF η 139 (nI l) (nI 0) = bd (f_X8_labelOf KF η 139 (nI l) (nI 0)) (fun x => some x) from rfl, hm 0 (by omega), a0]
    rfl
  · refine ⟨_, rfl, ?_⟩
    rw [show f_X8_ofLabel KF η 139 (nI l) (nI 1) = bd (f_X8_labelOf KF η 139 (nI l) (nI 1)) (fun x => some x) from rfl, hm 1 (by omega), a1]
    rfl
  · refine ⟨sumB (η.1 140) l 6, ?_, ?_⟩
    · rw [show f_X4_value KF μ (17 + 2 * l) (nI 2) = bd (f_X4_blackCells KF μ (17 + 2 * l)) (fun x => some x) from rfl, c_blackCells h0 hl]
      rfl
    · rw [show f_X8_ofLabel KF η 139 (nI l) (nI 2) = bd (f_X8_blacks KF η 139 (nI l)) (fun x => some x) from rfl, m_blacks hR2 hw hl]
      rfl
  · refine ⟨_, rfl, ?_⟩
    rw [show f_X8_ofLabel KF η 139 (nI l) (nI 3) = bd (f_X8_labelOf KF η 139 (nI l) (nI 8)) (fun x => some x) from rfl, hm 8 (by omega), a2]
    rfl
  · refine ⟨_, rfl, ?_⟩
    rw [show f_X8_ofLabel KF η 139 (nI l) (nI 4) = bd (f_X8_labelOf KF η 139 (nI l) (nI 9)) (fun x => some x) from rfl, hm 9 (by omega), a3]
    rfl
  · obtain ⟨v, e1, e2⟩ := b_empty h0 hl
    refine ⟨v, ?_, ?_⟩
    · rw [show f_X4_value KF μ (17 + 2 * l) (nI 5) = bd (f_X4_emptyColumns KF μ (17 + 2 * l)) (fun x => some x) from rfl, e1]
      rfl
    · rw [show f_X8_ofLabel KF η 139 (nI l) (nI 5) = bd (f_X8_empties KF η 139 (nI l)) (fun x => some x) from rfl, e2]
      rfl
theorem b_customer {D L C c j : Nat} {μ η : Mm} (h : CR D L C μ η) (hc : c < C) (hj : j < 6) : ∃ v, f_X2_value KF μ (29 + c) (nI j) = some v ∧ f_X8_customerOf KF η 139 (nI c) (nI j) = some v := by
  obtain ⟨hR, hR2, hcp, hw⟩ := h
  have hC := hw.2.2.1
  refine ⟨_, ?_, m_customerOf hR2 (by omega) hj⟩
  rw [← cpl_cus hcp hc hj]
  rcases j6 hj with rfl | rfl | rfl | rfl | rfl | rfl <;> rfl
theorem b_fadeS {D L C d : Nat} {μ η : Mm} (h : CR D L C μ η) (hd : d < D) : ∃ v, f_X3_fadeOf KF μ 10 (nI d) 14 = some v ∧ f_X8_fade KF η 140 (nI d) = some v := by
  obtain ⟨hR, hR2, hc, hw⟩ := h
  have hD := hw.1
  obtain ⟨-, -, -, ⟨fd, hf1, hf2, hf⟩, -⟩ := hw.2.2.2.1
  have hdo := m_dotOf (μ := η) (k := 140) (d := d) (j := 1) (by decide +kernel) (by omega) (by omega)
  obtain ⟨-, y2, -⟩ := cpl_dot hc hd
  have e2 : μ.1 14 2 = η.1 140 3 := cpl_set hc (by omega)
  have e3 : μ.1 14 3 = η.1 140 4 := cpl_set hc (by omega)
  unfold f_X3_fadeOf f_X8_fade
  simp (disch := omega) only [r_103 hR, bd_s, l1_s, K12, K14, K140, gd_n, ix_n, L0, L1, L2, L3, L4, y2, e2, e3, hf, hdo, lt1_le0, gd_t (show ¬ nI fd = nI 0 from nI_ne0 (n := fd) (by omega) (by omega)), leN, if_pos hf1]
  by_cases t : η.1 140 (14 + 3 * d + 1) - η.1 140 3 ≤ nI 0
  · rw [if_pos t]
    exact ⟨_, rfl, rfl⟩
  · rw [if_neg t]
    exact ⟨_, rfl, rfl⟩
theorem b_dot {D L C d j : Nat} {μ η : Mm} (h : CR D L C μ η) (hd : d < D) (hj : j < 5) : ∃ v, f_X5_dotValue KF μ 9 (nI d) (nI j) = some v ∧ f_X8_valueOf KF η 139 (nI d) (nI j) = some v := by
  have h0 := h
  obtain ⟨hR, hR2, hc, hw⟩ := h
  have hD := hw.1
  obtain ⟨y1, y2, y3⟩ := cpl_dot hc hd
  have hm : ∀ j, j < 3 → f_X8_dotOf KF η 140 (nI d) (nI j) = some (η.1 140 (14 + 3 * d + j)) := fun j hj => m_dotOf (by decide +kernel) (by omega) hj
  rcases (show j = 0 ∨ j = 1 ∨ j = 2 ∨ j = 3 ∨ j = 4 by omega) with rfl | rfl | rfl | rfl | rfl
  · refine ⟨η.1 140 (14 + 3 * d), ?_, ?_⟩
    · rw [show f_X5_dotValue KF μ 9 (nI d) (nI 0) = bd (rf KF μ 9 0 2) (fun b2 => bd (rf KF μ b2 2 8) fun b3 => gd (inb (nI d) (KF b3).2) <| some (μ.1 b3 (ix (nI d)))) from rfl]
      simp (disch := omega) only [r_90 hR, r_102 hR, bd_s, K11, gd_n, ix_n, y1]
    · rw [show f_X8_valueOf KF η 139 (nI d) (nI 0) = bd (rf KF η 139 0 8) (fun b12 => bd (f_X8_dotOf KF η b12 (nI d) (nI 0)) fun x14 => some x14) from rfl]
      simp only [r_m0 hR2, bd_s, hm 0 (by omega), Nat.add_zero]
  · refine ⟨η.1 140 (14 + 3 * d + 1), ?_, ?_⟩
    · rw [show f_X5_dotValue KF μ 9 (nI d) (nI 1) = bd (rf KF μ 9 0 2) (fun b2 => bd (rf KF μ b2 3 8) fun b3 => gd (inb (nI d) (KF b3).2) <| some (μ.1 b3 (ix (nI d)))) from rfl]
      simp (disch := omega) only [r_90 hR, r_103 hR, bd_s, K12, gd_n, ix_n, y2]
    · rw [show f_X8_valueOf KF η 139 (nI d) (nI 1) = bd (rf KF η 139 0 8) (fun b12 => bd (f_X8_dotOf KF η b12 (nI d) (nI 1)) fun x14 => some x14) from rfl]
      simp only [r_m0 hR2, bd_s, hm 1 (by omega)]
  · obtain ⟨v, e1, e2, -⟩ := b_renter h0 hd
    refine ⟨v, ?_, ?_⟩
    · rw [show f_X5_dotValue KF μ 9 (nI d) (nI 2) = bd (f_X5_renterOf KF μ 9 (nI d)) (fun x => some x) from rfl, e1]
      rfl
    · rw [show f_X8_valueOf KF η 139 (nI d) (nI 2) = bd (f_X8_renter KF η 139 (nI d)) (fun x => some x) from rfl, e2]
      rfl
  · refine ⟨η.1 140 (14 + 3 * d + 2), ?_, ?_⟩
    · rw [show f_X5_dotValue KF μ 9 (nI d) (nI 3) = bd (rf KF μ 9 0 2) (fun b2 => bd (rf KF μ b2 4 8) fun b3 => gd (inb (nI d) (KF b3).2) <| some (μ.1 b3 (ix (nI d)))) from rfl]
      simp (disch := omega) only [r_90 hR, r_104 hR, bd_s, K13, gd_n, ix_n, y3]
    · rw [show f_X8_valueOf KF η 139 (nI d) (nI 3) = bd (rf KF η 139 0 8) (fun b12 => bd (f_X8_dotOf KF η b12 (nI d) (nI 2)) fun x14 => some x14) from rfl]
      simp only [r_m0 hR2, bd_s, hm 2 (by omega)]
  · obtain ⟨v, e1, e2⟩ := b_fadeS h0 hd
    refine ⟨v, ?_, ?_⟩
    · rw [show f_X5_dotValue KF μ 9 (nI d) (nI 4) = bd (rf KF μ 9 0 2) (fun b16 => bd (rf KF μ 9 2 8) fun b17 => bd (f_X3_fadeOf KF μ b16 (nI d) b17) fun x19 => some x19) from rfl]
      simp only [r_90 hR, r_92 hR, bd_s, e1]
    · rw [show f_X8_valueOf KF η 139 (nI d) (nI 4) = bd (rf KF η 139 0 8) (fun b12 => bd (f_X8_fade KF η b12 (nI d)) fun x14 => some x14) from rfl]
      simp only [r_m0 hR2, bd_s, e2]
theorem b_worn {D L C : Nat} {μ η : Mm} (h : CR D L C μ η) : ∃ v, f_X3_mostWornDot KF μ 10 = some v ∧ f_X8_worn KF η 139 = some v := by
  obtain ⟨hR, hR2, hc, hw⟩ := h
  have hD := hw.1
  have e10 : μ.1 10 0 = nI D := hc.1.1.trans hD.1
  obtain ⟨a, b, e1, e2, q⟩ := lpp (fun n d v => f_X3_mostWornDot_l4 KF μ 10 n v (nI d)) (fun n d v => f_X8_worn_l4 KF η 139 n v (nI d)) D (fun d u x => u = x ∧ ∃ m, m < D ∧ u = nI m) (fun u x => u = x)
    (by
      rintro n d u x hd ⟨rfl, m, hm, rfl⟩
      refine Or.inr ?_
      have d1 := m_dotOf (μ := η) (k := 140) (d := d) (j := 1) (by decide +kernel) (by omega) (by omega)
      have d2 := m_dotOf (μ := η) (k := 140) (d := m) (j := 1) (by decide +kernel) (by omega) (by omega)
      obtain ⟨-, y1, -⟩ := cpl_dot hc hd
      obtain ⟨-, y2, -⟩ := cpl_dot hc hm
      simp (disch := omega) only [f_X3_mostWornDot_l4, f_X8_worn_l4, L0, L1, e10, hD.1, leN, if_neg (Nat.not_le.mpr hd), r_103 hR, r_m0 hR2, bd_s, l1_s, K12, K140, gd_n, ix_n, y1, y2, d1, d2]
      by_cases t : η.1 140 (14 + 3 * d + 1) ≤ η.1 140 (14 + 3 * m + 1)
      · rw [if_pos t, if_pos t, nI_add]
        exact ⟨_, _, rfl, rfl, rfl, m, hm, rfl⟩
      · rw [if_neg t, if_neg t, nI_add]
        exact ⟨_, _, rfl, rfl, rfl, d, hd, rfl⟩)
    (by
      rintro n u x ⟨e, -⟩
      refine ⟨u, x, ?_, ?_, e⟩
      · simp (disch := omega) only [f_X3_mostWornDot_l4, e10, leN, if_pos (Nat.le_refl D)]
      · simp (disch := omega) only [f_X8_worn_l4, L0, r_m0 hR2, bd_s, K140, gd_n, ix_n, hD.1, leN, if_pos (Nat.le_refl D)]) (D - 1) 1 0 0 FU (by omega) (by unfold FU; omega) ⟨rfl, 0, by omega, rfl⟩
  refine ⟨a, ?_, ?_⟩
  · unfold f_X3_mostWornDot
    rw [show f_X3_mostWornDot_l4 KF μ 10 FU 0 1 = some a from e1]
    rfl
  · unfold f_X8_worn
    rw [show f_X8_worn_l4 KF η 139 FU 0 1 = some b from e2, q]
    rfl
theorem b_whole {D L C j : Nat} {μ η : Mm} (h : CR D L C μ η) (hj : j < 17) : ∃ v, f_X5_wholeValue KF μ 9 (nI j) = some v ∧ f_X8_wholeOf KF η 139 (nI j) = some v := by
  have h0 := h
  obtain ⟨hR, hR2, hc, hw⟩ := h
  have hD := hw.1
  have e10 : μ.1 10 0 = η.1 140 0 := hc.1.1
  have e11 : μ.1 10 1 = η.1 140 10 := hc.1.2
  obtain ⟨e4, e6, e7⟩ := hc.2.2.2.1
  have dflt : ∀ j, (j < 10 ∨ j = 16) → f_X8_wholeOf KF η 139 (nI j) = some (η.1 140 (if j = 16 then 13 else j)) := by
    intro j hj
    rcases hj with hj | rfl
    · unfold f_X8_wholeOf
      rw [if_neg (show ¬ j = 16 by omega)]
      simp (disch := omega) only [L10, L11, L12, L13, L14, show (15 : Int32) = nI 15 by decide +kernel, show (16 : Int32) = nI 16 by decide +kernel, show (17 : Int32) = nI 17 by decide +kernel, eqN, if_neg (show ¬ j = 10 by omega), if_neg (show ¬ j = 11 by omega), if_neg (show ¬ j = 12 by omega), if_neg (show ¬ j = 13 by omega), if_neg (show ¬ j = 14 by omega), if_neg (show ¬ j = 15 by omega), if_neg (show ¬ j = 16 by omega), if_neg (show ¬ j = 17 by omega), r_m0 hR2, bd_s, K140, gd_n, ix_n]
    · rw [show f_X8_wholeOf KF η 139 (nI 16) = bd (rf KF η 139 0 8) (fun b20 => gd (inb (nI 13) (KF b20).2) <| some (η.1 b20 (ix (nI 13)))) from rfl]
      simp (disch := omega) only [r_m0 hR2, bd_s, K140, gd_n, ix_n]
      rfl
  have eleven : ∀ i, i < 3 → f_X8_wholeOf KF η 139 (nI (11 + i)) = some (η.1 140 (10 + i)) := by
    intro i hi
    rcases (show i = 0 ∨ i = 1 ∨ i = 2 by omega) with rfl | rfl | rfl
    · rw [show f_X8_wholeOf KF η 139 (nI (11 + 0)) = bd (rf KF η 139 0 8) (fun b20 => gd (inb (nI 10) (KF b20).2) <| some (η.1 b20 (ix (nI 10)))) from rfl]
      simp (disch := omega) only [r_m0 hR2, bd_s, K140, gd_n, ix_n, Nat.add_zero]
    · rw [show f_X8_wholeOf KF η 139 (nI (11 + 1)) = bd (rf KF η 139 0 8) (fun b20 => gd (inb (nI 11) (KF b20).2) <| some (η.1 b20 (ix (nI 11)))) from rfl]
      simp (disch := omega) only [r_m0 hR2, bd_s, K140, gd_n, ix_n]
    · rw [show f_X8_wholeOf KF η 139 (nI (11 + 2)) = bd (rf KF η 139 0 8) (fun b20 => gd (inb (nI 12) (KF b20).2) <| some (η.1 b20 (ix (nI 12)))) from rfl]
      simp (disch := omega) only [r_m0 hR2, bd_s, K140, gd_n, ix_n]
  rcases (show j = 0 ∨ (1 ≤ j ∧ j ≤ 7) ∨ j = 8 ∨ j = 9 ∨ j = 10 ∨ j = 11 ∨ j = 12 ∨ j = 13 ∨ j = 14 ∨ j = 15 ∨ j = 16 by omega) with rfl | ⟨h1, h7⟩ | rfl | rfl | rfl | rfl | rfl | rfl | rfl | rfl | rfl
  · refine ⟨_, ?_, dflt 0 (by omega)⟩
    rw [show f_X5_wholeValue KF μ 9 (nI 0) = bd (rf KF μ 9 0 2) (fun b3 => some (μ.1 b3 0)) from rfl, r_90 hR, bd_s, e10]
    rfl
  · refine ⟨_, ?_, dflt j (by omega)⟩
    unfold f_X5_wholeValue
    have es := cpl_set hc (j := j - 1) (by omega)
    rw [show 1 + (j - 1) = j by omega] at es
    have n1 : ¬ nI j < 1 := nI_nlt (b := 1) h1 (by omega)
    have n7 : ¬ (7 : Int32) < nI j := nI_nlt (a := 7) h7 (by omega)
    rw [if_neg n1, if_neg n7]
    simp (disch := omega) only [L1, r_92 hR, bd_s, pk_sub, K14, gd_n, ix_n, es, if_neg (show ¬ j = 16 by omega)]
  · refine ⟨_, ?_, dflt 8 (by omega)⟩
    exact congrArg some e4
  · refine ⟨_, ?_, dflt 9 (by omega)⟩
    exact congrArg some e6
  · refine ⟨Sm (fun d => η.1 140 (14 + 3 * d + 1)) D, ?_, ?_⟩
    rotate_left
    · rw [show f_X8_wholeOf KF η 139 (nI 10) = bd (f_X8_sumOf KF η 139 (nI 1)) (fun x => some x) from rfl, m_sumOf hR2 hw (by omega)]
      rfl
    · rw [show f_X5_wholeValue KF μ 9 (nI 10) = bd (f_X5_allWear KF μ 9) (fun x => some x) from rfl, c_allWear h0]
      rfl
  · refine ⟨_, ?_, eleven 0 (by omega)⟩
    rw [show f_X5_wholeValue KF μ 9 (nI 11) = bd (rf KF μ 9 0 2) (fun b3 => some (μ.1 b3 1)) from rfl, r_90 hR, bd_s, e11]
  · refine ⟨_, ?_, eleven 1 (by omega)⟩
    rw [show f_X5_wholeValue KF μ 9 (nI 12) = bd (f_X5_allPrinted KF μ 9) (fun x => some x) from rfl, c_allPrinted h0]
    rfl
  · refine ⟨_, ?_, eleven 2 (by omega)⟩
    rw [show f_X5_wholeValue KF μ 9 (nI 13) = bd (f_X5_allFailed KF μ 9) (fun x => some x) from rfl, c_allFailed h0]
    rfl
  · refine ⟨Sm (earnT (η.1 140)) C, ?_, ?_⟩
    rotate_left
    · rw [show f_X8_wholeOf KF η 139 (nI 14) = bd (f_X8_earned KF η 139) (fun x => some x) from rfl, m_earned hR2 hw]
      rfl
    · rw [show f_X5_wholeValue KF μ 9 (nI 14) = bd (f_X5_allEarned KF μ 9) (fun x => some x) from rfl, c_allEarned h0]
      rfl
  · refine ⟨nI (cn (anyR (η.1 140) C) D), ?_, ?_⟩
    rotate_left
    · rw [show f_X8_wholeOf KF η 139 (nI 15) = bd (f_X8_rented KF η 139) (fun x => some x) from rfl, m_rented hR2 hw]
      rfl
    · rw [show f_X5_wholeValue KF μ 9 (nI 15) = bd (f_X5_allRented KF μ 9) (fun x => some x) from rfl, c_allRented h0]
      rfl
  · refine ⟨_, ?_, dflt 16 (by omega)⟩
    exact congrArg some e7
end PureH
