/-! PURE: questions: a dot, a label, a row, a customer -/
section PureX
def QU (μ η : Mm) (pl : List (Nat × Nat)) (n : Option Int32) (x : Option (Int32 × Mm)) (m : Option (Int32 × Mm)) : Prop :=
  (∃ v, n = some v ∧ m = some (v, sI η 139 7 0)) ∨ ∃ ck, ck ∈ pl ∧ x = some (nI ck.1, μ) ∧ m = some (0, sI η 139 7 (nI ck.2))
theorem ref0 : f_X7_refuse 0 = some () := rfl
theorem q_dot {D L C : Nat} {μ η : Mm} (h : CR D L C μ η) (a b : Int32) : QU μ η [(1, 1), (2, 2)] (f_X7_dot KF μ 0 a b) (fx_X7_dot KF μ 0 a b) (f_X8_dot KF η 139 a b) := by
  have hD := h.2.2.2.1
  have hh := c_hasDot h a
  have hm := m_isDot h.2.1 h.2.2.2 a
  by_cases q : has a D = 0
  · refine Or.inr ⟨(1, 1), m2m.1, ?_, ?_⟩
    · unfold fx_X7_dot f_X5_whyNotDotValue
      rw [r_03 h.1, bd_s, hh, bd_s, if_pos q]
      rfl
    · unfold f_X8_dot
      rw [hm, bd_s, if_pos q, th1, bd_s, l1_s, l1_s, i10]
  obtain ⟨d, hd, rfl, q1⟩ := has_yes q (by omega)
  by_cases s : b < 0
  · refine Or.inr ⟨(2, 2), m2m.2, ?_, ?_⟩
    · unfold fx_X7_dot f_X5_whyNotDotValue
      rw [r_03 h.1, bd_s, hh, bd_s, q1, i10, if_pos s]
      rfl
    · unfold f_X8_dot
      rw [hm, bd_s, q1, i10, in_lo s, bd_s, i00, l1_s, th2, bd_s, l1_s, l1_s, i10]
  by_cases t : 4 < b
  · refine Or.inr ⟨(2, 2), m2m.2, ?_, ?_⟩
    · unfold fx_X7_dot f_X5_whyNotDotValue
      have t5 : ¬ b < 5 := by
        intro t5
        rw [Int32.lt_iff_toInt_lt] at t t5
        have e4 : (4 : Int32).toInt = 4 := rfl
        have e5 : (5 : Int32).toInt = 5 := rfl
        omega
      rw [r_03 h.1, bd_s, hh, bd_s, q1, i10, if_neg s, if_neg t5]
      rfl
    · unfold f_X8_dot
      rw [hm, bd_s, q1, i10, in_hi t, bd_s, i00, l1_s, th2, bd_s, l1_s, l1_s, i10]
  obtain ⟨j, -, hj, rfl⟩ : bnd b 0 4 := bnd_of (by omega) s (by omega) t
  obtain ⟨v, y1, y2⟩ := b_dot (h.s7 0) hd (j := j) (by omega)
  refine Or.inl ⟨v, ?_, ?_⟩
  · unfold f_X7_dot f_X5_whyNotDotValue
    rw [r_03 h.1, bd_s, hh, bd_s, q1, i10, if_neg s, if_pos (show nI j < 5 from nI_lt (b := 5) (by omega) (by omega)), l1_s, bd_s, ref0, bd_s, bd_s, y1]
    rfl
  · unfold f_X8_dot
    rw [hm, bd_s, q1, i10, in_in s t, bd_s, i10, l1_s, th0, bd_s, l1_s, l1_s, i00, y2]
    rfl
theorem lt56 {b : Int32} (t : 5 < b) : ¬ b < 6 := by
  intro t5
  rw [Int32.lt_iff_toInt_lt] at t t5
  have e4 : (5 : Int32).toInt = 5 := rfl
  have e5 : (6 : Int32).toInt = 6 := rfl
  omega
theorem q_label {D L C : Nat} {μ η : Mm} (h : CR D L C μ η) (a b : Int32) : QU μ η [(1, 1), (2, 2)] (f_X7_label KF μ 0 a b) (fx_X7_label KF μ 0 a b) (f_X8_label KF η 139 a b) := by
  have hL := h.2.2.2.2.1
  have hh := c_hasLabel h a
  have hm := m_isLabel h.2.1 h.2.2.2 a
  by_cases q : has a L = 0
  · refine Or.inr ⟨(1, 1), m2m.1, ?_, ?_⟩
    · unfold fx_X7_label f_X5_whyNotLabelValue
      rw [r_03 h.1, bd_s, hh, bd_s, if_pos q]
      rfl
    · unfold f_X8_label
      rw [hm, bd_s, if_pos q, th1, bd_s, l1_s, l1_s, i10]
  obtain ⟨l, hl, rfl, q1⟩ := has_yes q (by omega)
  by_cases s : b < 0
  · refine Or.inr ⟨(2, 2), m2m.2, ?_, ?_⟩
    · unfold fx_X7_label f_X5_whyNotLabelValue
      rw [r_03 h.1, bd_s, hh, bd_s, q1, i10, if_pos s]
      rfl
    · unfold f_X8_label
      rw [hm, bd_s, q1, i10, in_lo s, bd_s, i00, l1_s, th2, bd_s, l1_s, l1_s, i10]
  by_cases t : 5 < b
  · refine Or.inr ⟨(2, 2), m2m.2, ?_, ?_⟩
    · unfold fx_X7_label f_X5_whyNotLabelValue
      rw [r_03 h.1, bd_s, hh, bd_s, q1, i10, if_neg s, if_neg (lt56 t)]
      rfl
    · unfold f_X8_label
      rw [hm, bd_s, q1, i10, in_hi t, bd_s, i00, l1_s, th2, bd_s, l1_s, l1_s, i10]
  obtain ⟨j, -, hj, rfl⟩ : bnd b 0 5 := bnd_of (by omega) s (by omega) t
  obtain ⟨v, y1, y2⟩ := b_label (h.s7 0) hl (j := j) (by omega)
  refine Or.inl ⟨v, ?_, ?_⟩
  · unfold f_X7_label f_X5_whyNotLabelValue
    rw [r_03 h.1, bd_s, hh, bd_s, q1, i10, if_neg s, if_pos (show nI j < 6 from nI_lt (b := 6) (by omega) (by omega)), l1_s, bd_s, ref0, bd_s, bd_s]
    simp (disch := omega) only [r_93 h.1, bd_s, K15, gd_n, ix_n, r_lab h.1 (show l < 6 by omega), y1]
  · unfold f_X8_label
    rw [hm, bd_s, q1, i10, in_in s t, bd_s, i10, l1_s, th0, bd_s, l1_s, l1_s, i00, y2]
    rfl
theorem q_customer {D L C : Nat} {μ η : Mm} (h : CR D L C μ η) (a b : Int32) : QU μ η [(1, 1), (2, 2)] (f_X7_customer KF μ 0 a b) (fx_X7_customer KF μ 0 a b) (f_X8_customer KF η 139 a b) := by
  have hC := h.2.2.2.2.2.1
  have hh := c_hasCustomer h a
  have hm := m_isCustomer h.2.1 h.2.2.2 a
  by_cases q : has a C = 0
  · refine Or.inr ⟨(1, 1), m2m.1, ?_, ?_⟩
    · unfold fx_X7_customer f_X5_whyNotCustomerValue
      rw [r_03 h.1, bd_s, hh, bd_s, if_pos q]
      rfl
    · unfold f_X8_customer
      rw [hm, bd_s, if_pos q, th1, bd_s, l1_s, l1_s, i10]
  obtain ⟨c, hc, rfl, q1⟩ := has_yes q (by omega)
  by_cases s : b < 0
  · refine Or.inr ⟨(2, 2), m2m.2, ?_, ?_⟩
    · unfold fx_X7_customer f_X5_whyNotCustomerValue
      rw [r_03 h.1, bd_s, hh, bd_s, q1, i10, if_pos s]
      rfl
    · unfold f_X8_customer
      rw [hm, bd_s, q1, i10, in_lo s, bd_s, i00, l1_s, th2, bd_s, l1_s, l1_s, i10]
  by_cases t : 5 < b
  · refine Or.inr ⟨(2, 2), m2m.2, ?_, ?_⟩
    · unfold fx_X7_customer f_X5_whyNotCustomerValue
      rw [r_03 h.1, bd_s, hh, bd_s, q1, i10, if_neg s, if_neg (lt56 t)]
      rfl
    · unfold f_X8_customer
      rw [hm, bd_s, q1, i10, in_hi t, bd_s, i00, l1_s, th2, bd_s, l1_s, l1_s, i10]
  obtain ⟨j, -, hj, rfl⟩ : bnd b 0 5 := bnd_of (by omega) s (by omega) t
  obtain ⟨v, y1, y2⟩ := b_customer (h.s7 0) hc (j := j) (by omega)
  refine Or.inl ⟨v, ?_, ?_⟩
  · unfold f_X7_customer f_X5_whyNotCustomerValue
    rw [r_03 h.1, bd_s, hh, bd_s, q1, i10, if_neg s, if_pos (show nI j < 6 from nI_lt (b := 6) (by omega) (by omega)), l1_s, bd_s, ref0, bd_s, bd_s]
    simp (disch := omega) only [r_95 h.1, bd_s, K16, gd_n, ix_n, r_cus h.1 (show c < 6 by omega), y1]
  · unfold f_X8_customer
    rw [hm, bd_s, q1, i10, in_in s t, bd_s, i10, l1_s, th0, bd_s, l1_s, l1_s, i00, y2]
    rfl
end PureX
