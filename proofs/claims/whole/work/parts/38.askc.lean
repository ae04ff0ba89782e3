/-! PURE: questions: a row, the whole -/
section PureZ
theorem q_row {D L C : Nat} {μ η : Mm} (h : CR D L C μ η) (a b : Int32) : QU μ η [(1, 1), (2, 2)] (f_X7_row KF μ 0 a b) (fx_X7_row KF μ 0 a b) (f_X8_row KF η 139 a b) := by
  have hL := h.2.2.2.2.1
  have hh := c_hasLabel h a
  have hm := m_isLabel h.2.1 h.2.2.2 a
  by_cases q : has a L = 0
  · refine Or.inr ⟨(1, 1), m2m.1, ?_, ?_⟩
    · unfold fx_X7_row f_X5_whyNotLabelValue
      rw [r_03 h.1, bd_s, hh, bd_s, if_pos q]
      rfl
    · unfold f_X8_row
      rw [hm, bd_s, if_pos q, th1, bd_s, l1_s, l1_s, i10]
  obtain ⟨l, hl, rfl, q1⟩ := has_yes q (by omega)
  by_cases s : b < 0
  · refine Or.inr ⟨(2, 2), m2m.2, ?_, ?_⟩
    · unfold fx_X7_row f_X5_whyNotLabelValue
      rw [r_03 h.1, bd_s, hh, bd_s, q1, i10, if_pos s]
      rfl
    · unfold f_X8_row
      rw [hm, bd_s, q1, i10, in_lo s, bd_s, i00, l1_s, th2, bd_s, l1_s, l1_s, i10]
  by_cases t : 5 < b
  · refine Or.inr ⟨(2, 2), m2m.2, ?_, ?_⟩
    · unfold fx_X7_row f_X5_whyNotLabelValue
      rw [r_03 h.1, bd_s, hh, bd_s, q1, i10, if_neg s, if_neg (lt56 t)]
      rfl
    · unfold f_X8_row
      rw [hm, bd_s, q1, i10, in_hi t, bd_s, i00, l1_s, th2, bd_s, l1_s, l1_s, i10]
  obtain ⟨j, -, hj, rfl⟩ : bnd b 0 5 := bnd_of (by omega) s (by omega) t
  have e1 := cpl_row h.2.2.1 hl (r := j) (by omega)
  have e2 : f_X8_labelOf KF (sI η 139 7 0) 139 (nI l) (nI (2 + j)) = some (η.1 140 (86 + 10 * l + (2 + j))) := by
    rw [m_labelOf (RF.sI h.2.1) (l := l) (j := 2 + j) (by omega) (by omega), sI_no (by omega)]
  refine Or.inl ⟨η.1 140 (86 + 10 * l + (2 + j)), ?_, ?_⟩
  · unfold f_X7_row f_X5_whyNotLabelValue
    rw [r_03 h.1, bd_s, hh, bd_s, q1, i10, if_neg s, if_pos (show nI j < 6 from nI_lt (b := 6) (by omega) (by omega)), l1_s, bd_s, ref0, bd_s, bd_s]
    simp (disch := omega) only [r_93 h.1, bd_s, K15, gd_n, ix_n, r_lab h.1 (show l < 6 by omega), r_row h.1 (show l < 6 by omega), K_row l (by omega), e1]
  · unfold f_X8_row
    rw [hm, bd_s, q1, i10, in_in s t, bd_s, i10, l1_s, th0, bd_s, l1_s, l1_s, i00, L2, nI_add, e2]
    rfl
theorem q_whole {D L C m : Nat} {μ η : Mm} (h : CR D L C μ η) (ht : TX m μ η) (a : Int32) : QU μ η [(2, 1)] (f_X7_whole KF μ 0 a) (fx_X7_whole KF μ 0 a) (f_X8_whole KF η 139 a) := by
  by_cases s : a < 0
  · refine Or.inr ⟨(2, 1), List.mem_singleton.mpr rfl, ?_, ?_⟩
    · unfold fx_X7_whole
      rw [if_pos s]
      rfl
    · unfold f_X8_whole
      rw [in_lo s, bd_s, i00, l1_s, th1, bd_s, l1_s, l1_s, i10]
  by_cases t : 17 < a
  · have t18 : ¬ a < 18 := by
      intro t5
      rw [Int32.lt_iff_toInt_lt] at t t5
      have e4 : (17 : Int32).toInt = 17 := rfl
      have e5 : (18 : Int32).toInt = 18 := rfl
      omega
    refine Or.inr ⟨(2, 1), List.mem_singleton.mpr rfl, ?_, ?_⟩
    · unfold fx_X7_whole
      rw [if_neg s, if_neg t18]
      rfl
    · unfold f_X8_whole
      rw [in_hi t, bd_s, i00, l1_s, th1, bd_s, l1_s, l1_s, i10]
  obtain ⟨j, -, hj, rfl⟩ : bnd a 0 17 := bnd_of (by omega) s (by omega) t
  have j18 : nI j < 18 := nI_lt (b := 18) (by omega) (by omega)
  by_cases e : j = 17
  · subst e
    refine Or.inl ⟨nI m, ?_, ?_⟩
    · unfold f_X7_whole
      rw [if_neg s, if_pos j18, l1_s, ref0, bd_s, if_pos (show nI 17 = 17 from rfl), r_00 h.1, bd_s, ht.1.1]
    · unfold f_X8_whole
      rw [in_in s t, bd_s, i10, l1_s, th0, bd_s, l1_s, l1_s, i00, show f_X8_wholeOf KF (sI η 139 7 0) 139 (nI 17) = some ((sI η 139 7 0).1 139 6) from rfl, sI_of (by omega), ht.1.2.1]
      rfl
  · obtain ⟨v, y1, y2⟩ := b_whole (h.s7 0) (j := j) (by omega)
    have n17 : ¬ nI j = 17 := by
      rw [show (17 : Int32) = nI 17 from rfl, eqN (by omega) (by omega)]
      exact e
    refine Or.inl ⟨v, ?_, ?_⟩
    · unfold f_X7_whole
      rw [if_neg s, if_pos j18, l1_s, ref0, bd_s, if_neg n17, r_03 h.1, bd_s, y1]
      rfl
    · unfold f_X8_whole
      rw [in_in s t, bd_s, i10, l1_s, th0, bd_s, l1_s, l1_s, i00, y2]
      rfl
end PureZ
