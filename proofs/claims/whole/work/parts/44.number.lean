/-! PURE: reading a number, the semicolon -/
section PureP2
theorem c_number {m p i : Nat} {T : Nat → Int32} {μ : Mm} (h : HC m T μ) (hp : μ.1 1 2 = nI p) (hm : p ≤ m) (hi : i < 3) :
    (¬ atP T m p 32 32 ∧ ∃ μ', f_X1_readNumber KF μ 1 (nI i) = some (0, μ') ∧ PF μ μ' ∧ PS1 p μ μ') ∨
    (atP T m p 32 32 ∧ ∃ q d μ', f_X1_readNumber KF μ 1 (nI i) = some (if d = 0 then 0 else 1, μ') ∧ PF μ μ' ∧ (μ'.1 1 2 = nI (q + d) ∧ μ'.1 1 3 = μ.1 1 3 ∧ μ'.2 = μ.2) ∧ SE T m 32 32 p q ∧ DG T m q d ∧ μ'.1 3 i = vl T q d ∧ ∀ j, j ≠ i → μ'.1 3 j = μ.1 3 j) := by
  have h150 := h.2.2.1
  obtain ⟨q, μ1, e1, f1, g1, s1⟩ := c_spaces h hp hm
  have hq := s1.1.2
  by_cases c : atP T m p 32 32
  · have hlt := s1.more c
    obtain ⟨d, μ2, e2, f2, g2, s2⟩ := c_digits (i := i) (h.pf f1) g1.1 hq
    have h2 := (h.pf f1).pf f2
    refine Or.inr ⟨c, q, d, sI μ2 3 i (vl T q d), ?_, (f1.trans f2).s3, ⟨(sI_no (by omega)).trans g2.1, (sI_no (by omega)).trans (g2.2.1.trans g1.2.1), g2.2.2.2.trans g1.2.2.2⟩, s1, s2, sI_at, fun j hj => (sI_of hj).trans ?_⟩
    · unfold f_X1_readNumber
      have hd4 := s2.1.1
      simp (disch := omega) only [l1_s, e1, bd_s, g1.1, hp, eqN, if_neg (show ¬ q = p by omega), e2, r_15 h2.1, K3, gd_n, ix_n]
      by_cases d0 : d = 0
      · subst d0
        rfl
      · rw [if_neg d0, if_neg (show ¬ nI d ≤ 0 from nI_nle (by omega) (by omega))]
        rfl
    · rw [g2.2.2.1, g1.2.2.1]
  · have hpq := s1.stay c
    subst hpq
    refine Or.inl ⟨c, μ1, ?_, f1, g1⟩
    unfold f_X1_readNumber
    simp only [l1_s, e1, bd_s, g1.1, hp, if_true]
theorem m_digits {m q i : Nat} {T : Nat → Int32} {η : Mm} (h : HM m T η) (hp : η.1 139 8 = nI q) (hm : q ≤ m) (hi : i < 3) (h0 : η.1 144 i = 0) : ∃ d η', f_X8_number_l29 KF 139 (nI i) (nI q) FU η = some η' ∧ QF η η' ∧ (η'.1 139 8 = nI (q + d) ∧ η'.1 139 9 = η.1 139 9) ∧ DG T m q d ∧ η'.1 144 i = vl T q d ∧ ∀ j, j ≠ i → η'.1 144 j = η.1 144 j := by
  have h150 := h.2.2.1
  obtain ⟨r, e, d, f1, f2, f3, f4, f5⟩ := lp (fun n d (ν : Mm) => f_X8_number_l29 KF 139 (nI i) (nI q) n ν) 4
    (fun d ν => QF η ν ∧ (ν.1 139 8 = nI (q + d) ∧ ν.1 139 9 = η.1 139 9) ∧ (q + d ≤ m ∧ ∀ j, j < d → atP T m (q + j) 48 57) ∧ ν.1 144 i = vl T q d ∧ ∀ j, j ≠ i → ν.1 144 j = η.1 144 j)
    (fun ν => ∃ d, QF η ν ∧ (ν.1 139 8 = nI (q + d) ∧ ν.1 139 9 = η.1 139 9) ∧ DG T m q d ∧ ν.1 144 i = vl T q d ∧ ∀ j, j ≠ i → ν.1 144 j = η.1 144 j)
    (by
      rintro n d ν hd ⟨p1, p2, p3, p4, p5⟩
      have hν := h.qf p1
      obtain ⟨a1, a0⟩ := m_isAt hν p2.1 p3.1 48 57
      by_cases c : atP T m (q + d) 48 57
      · have eT : ν.1 143 (q + d) = T (q + d) := (hν.2.2.2 (q + d) c.1).1
        have lt := c.1
        refine Or.inr ⟨sI (sI ν 144 i (10 * vl T q d + T (q + d) - 48)) 139 8 (nI (q + d + 1)), ?_, (p1.s144).s8 (Or.inl rfl), ⟨sI_at, (sI_of (by omega)).trans ((sI_no (by omega)).trans p2.2)⟩, ⟨by omega, fun j hj => ?_⟩, (sI_no (by omega)).trans sI_at, fun j hj => (sI_no (by omega)).trans ((sI_of hj).trans (p5 j hj))⟩
        · have q4 : ¬ (4 : Int32) ≤ nI (q + d) - nI q := by
            rw [pk_sub (by omega), L4, leN (by omega) (by omega)]
            omega
          simp (disch := omega) only [f_X8_number_l29, a1 c, bd_s, i10, p2.1, if_neg q4, r_m10 hν.1, r_m5 hν.1, rf_sI, K144, K143, gd_n, ix_n, l1_s, p4, eT, sI_no, nI_1]
        · by_cases e : j = d
          · subst e
            exact c
          · exact p3.2 j (by omega)
      · refine Or.inl ⟨ν, ?_, d, p1, p2, ⟨⟨by omega, p3.1⟩, p3.2, Or.inr c⟩, p4, p5⟩
        simp only [f_X8_number_l29, a0 c, bd_s, i00, if_true])
    (by
      rintro n ν ⟨p1, p2, p3, p4, p5⟩
      have hν := h.qf p1
      obtain ⟨a1, a0⟩ := m_isAt hν p2.1 p3.1 48 57
      refine ⟨ν, ?_, 4, p1, p2, ⟨⟨by omega, p3.1⟩, p3.2, Or.inl rfl⟩, p4, p5⟩
      by_cases c : atP T m (q + 4) 48 57
      · have q4 : (4 : Int32) ≤ nI (q + 4) - nI q := by
          rw [pk_sub (by omega), L4, leN (by omega) (by omega)]
          omega
        simp only [f_X8_number_l29, a1 c, bd_s, i10, p2.1, if_pos q4]
      · simp only [f_X8_number_l29, a0 c, bd_s, i00, if_true]) 4 0 η FU (by omega) (by unfold FU; omega) ⟨QF.rf, ⟨hp, rfl⟩, ⟨hm, fun j hj => absurd hj (by omega)⟩, h0, fun _ _ => rfl⟩
  exact ⟨d, r, e, f1, f2, f3, f4, f5⟩
theorem m_number {m p i : Nat} {T : Nat → Int32} {η : Mm} (h : HM m T η) (hp : η.1 139 8 = nI p) (hm : p ≤ m) (hi : i < 3) :
    (¬ atP T m p 32 32 ∧ f_X8_number KF η 139 (nI i) = some (0, η)) ∨
    (atP T m p 32 32 ∧ ∃ q d x η', f_X8_number KF η 139 (nI i) = some (x, η') ∧ QF η η' ∧ (η'.1 139 8 = nI (q + d) ∧ η'.1 139 9 = η.1 139 9) ∧ SE T m 32 32 p q ∧ DG T m q d ∧ η'.1 144 i = vl T q d ∧ (∀ j, j ≠ i → η'.1 144 j = η.1 144 j) ∧
      ((x = 0 ∧ (d = 0 ∨ atP T m (q + d) 48 57)) ∨ (x = 1 ∧ d ≠ 0 ∧ ¬ atP T m (q + d) 48 57))) := by
  have h150 := h.2.2.1
  obtain ⟨a1, a0⟩ := m_isAt h hp hm 32 32
  by_cases c : atP T m p 32 32
  · obtain ⟨q, η1, e1, f1, g1, s1⟩ := m_skips h hp hm
    have hlt := s1.more c
    have hq := s1.1.2
    have h1 := h.qf f1
    let η2 := sI η1 144 i 0
    have f2 : QF η1 η2 := QF.rf.s144
    have h2 := h1.qf f2
    obtain ⟨d, η3, e3, f3, g3, s3, v3, o3⟩ := m_digits (i := i) h2 (q := q) ((sI_no (by omega)).trans g1.1) hq hi sI_at
    have h3 := h2.qf f3
    have hd4 := s3.1
    obtain ⟨b1, b0⟩ := m_isAt h3 g3.1 s3.1.2 48 57
    have eF : f_X8_number KF η 139 (nI i) = if nI (q + d) ≤ nI q then some (0, η3) else bd (f_X8_isAt KF η3 139 48 57) fun x26 => lt1 (α := Int32) (if x26 = 0 then 1 else 0) fun x27 => gd (x27 = 0 ∨ x27 = 1) <| some (x27, η3) := by
      unfold f_X8_number
      simp (disch := omega) only [a1 c, bd_s, i10, e1, l1_s, g1.1, r_m10 h1.1, K144, gd_n, ix_n]
      rw [show f_X8_number_l29 KF 139 (nI i) (nI q) FU (sI η1 144 i 0) = some η3 from e3]
      simp only [bd_s, l1_s, g3.1]
    have rest : QF η η3 ∧ (η3.1 139 8 = nI (q + d) ∧ η3.1 139 9 = η.1 139 9) ∧ SE T m 32 32 p q ∧ DG T m q d ∧ η3.1 144 i = vl T q d ∧ (∀ j, j ≠ i → η3.1 144 j = η.1 144 j) :=
      ⟨(f1.trans f2).trans f3, ⟨g3.1, g3.2.trans ((sI_no (by omega)).trans g1.2.1)⟩, s1, s3, v3, fun j hj => (o3 j hj).trans ((sI_of hj).trans (by rw [g1.2.2]))⟩
    obtain ⟨z1, z2, z3, z4, z5, z6⟩ := rest
    by_cases d0 : d = 0
    · refine Or.inr ⟨c, q, d, 0, η3, ?_, z1, z2, z3, z4, z5, z6, Or.inl ⟨rfl, Or.inl d0⟩⟩
      rw [eF, if_pos (by rw [leN (by omega) (by omega)]; omega)]
    · have hn : ¬ nI (q + d) ≤ nI q := by
        rw [leN (by omega) (by omega)]
        omega
      by_cases c9 : atP T m (q + d) 48 57
      · refine Or.inr ⟨c, q, d, 0, η3, ?_, z1, z2, z3, z4, z5, z6, Or.inl ⟨rfl, Or.inr c9⟩⟩
        rw [eF, if_neg hn, b1 c9]
        rfl
      · refine Or.inr ⟨c, q, d, 1, η3, ?_, z1, z2, z3, z4, z5, z6, Or.inr ⟨rfl, d0, c9⟩⟩
        rw [eF, if_neg hn, b0 c9]
        rfl
  · refine Or.inl ⟨c, ?_⟩
    unfold f_X8_number
    rw [a0 c, bd_s, i00]
theorem c_semi {m p : Nat} {T : Nat → Int32} {μ : Mm} (h : HC m T μ) (hp : μ.1 1 2 = nI p) (hm : p ≤ m) : ∃ q, SE T m 32 32 p q ∧
    ((¬ atP T m q 59 59 ∧ ∃ μ', f_X1_readSemicolon KF μ 1 = some (0, μ') ∧ PF μ μ' ∧ PS1 q μ μ') ∨ (atP T m q 59 59 ∧ ∃ μ', f_X1_readSemicolon KF μ 1 = some (1, μ') ∧ PF μ μ' ∧ PS1 (q + 1) μ μ')) := by
  have h150 := h.2.2.1
  obtain ⟨q, μ1, e1, f1, g1, s1⟩ := c_spaces h hp hm
  have hq := s1.1.2
  have h1 := h.pf f1
  refine ⟨q, s1, ?_⟩
  by_cases c0 : m ≤ q
  · refine Or.inl ⟨fun a => absurd a.1 (by omega), μ1, ?_, f1, g1⟩
    unfold f_X1_readSemicolon
    simp (disch := omega) only [e1, bd_s, h1.2.1, g1.1, leN, if_pos c0]
  · have eT : μ1.1 2 q = T q := h1.2.2.2 q (by omega)
    have eF : f_X1_readSemicolon KF μ 1 = if T q = 59 then some (1, sI μ1 1 2 (nI (q + 1))) else some (0, μ1) := by
      unfold f_X1_readSemicolon
      simp (disch := omega) only [e1, bd_s, h1.2.1, g1.1, leN, if_neg c0, r_10 h1.1, K2, gd_n, ix_n, eT, l1_s, nI_1]
    by_cases c : T q = 59
    · exact Or.inr ⟨⟨by omega, by rw [c]; decide, by rw [c]; decide⟩, sI μ1 1 2 (nI (q + 1)), by rw [eF, if_pos c], f1.s1 (Or.inl rfl), g1.nx⟩
    · exact Or.inl ⟨fun a => c (i32_eq a.2.1 a.2.2), μ1, by rw [eF, if_neg c], f1, g1⟩
end PureP2
