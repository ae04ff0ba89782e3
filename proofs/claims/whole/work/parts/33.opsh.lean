/-! PURE: print, and what is asked of a customer, a label, an offset -/
section PureU
theorem b_ask {D L C : Nat} {μ η : Mm} (h : CR D L C μ η) (a b e : Int32) : ∃ k, k < 3 ∧ f_X5_whyNotAskAbout KF μ 9 a b e = some (nI k) ∧ f_X8_wrong KF η 139 a b e = some (nI k) ∧
    (k = 0 → ∃ c l o, (a = nI c ∧ c < C) ∧ (b = nI l ∧ l < L) ∧ e = nI o ∧ o < 24) := by
  have hL := h.2.2.2.2.1
  have hC := h.2.2.2.2.2.1
  have hh := c_hasCustomer h a
  have hm := m_isCustomer h.2.1 h.2.2.2 a
  have hh2 := c_hasLabel h b
  have hm2 := m_isLabel h.2.1 h.2.2.2 b
  by_cases q : has a C = 0
  · refine ⟨1, by omega, ?_, ?_, fun h => absurd h (by omega)⟩
    · unfold f_X5_whyNotAskAbout
      rw [hh, bd_s, if_pos q]
      rfl
    · unfold f_X8_wrong
      rw [hm, bd_s, if_pos q]
      rfl
  obtain ⟨c, hc, rfl, q1⟩ := has_yes q (by omega)
  by_cases r : has b L = 0
  · refine ⟨1, by omega, ?_, ?_, fun h => absurd h (by omega)⟩
    · unfold f_X5_whyNotAskAbout
      rw [hh, bd_s, q1, i10, hh2, bd_s, if_pos r]
      rfl
    · unfold f_X8_wrong
      rw [hm, bd_s, q1, i10, hm2, bd_s, if_pos r]
      rfl
  obtain ⟨l, hl, rfl, r1⟩ := has_yes r (by omega)
  by_cases s : e < 0
  · refine ⟨2, by omega, ?_, ?_, fun h => absurd h (by omega)⟩
    · unfold f_X5_whyNotAskAbout
      rw [hh, bd_s, q1, i10, hh2, bd_s, r1, i10, if_pos s]
      rfl
    · unfold f_X8_wrong
      rw [hm, bd_s, q1, i10, hm2, bd_s, r1, i10, in_lo s, bd_s, i00]
      rfl
  by_cases t : 23 < e
  · refine ⟨2, by omega, ?_, ?_, fun h => absurd h (by omega)⟩
    · unfold f_X5_whyNotAskAbout
      rw [hh, bd_s, q1, i10, hh2, bd_s, r1, i10, if_neg s, if_neg (Int32.not_le.mpr t)]
      rfl
    · unfold f_X8_wrong
      rw [hm, bd_s, q1, i10, hm2, bd_s, r1, i10, in_hi t, bd_s, i00]
      rfl
  obtain ⟨o, -, ho, rfl⟩ : bnd e 0 23 := bnd_of (by omega) s (by omega) t
  refine ⟨0, by omega, ?_, ?_, fun _ => ⟨c, l, o, ⟨rfl, hc⟩, ⟨rfl, hl⟩, rfl, by omega⟩⟩
  · unfold f_X5_whyNotAskAbout
    rw [hh, bd_s, q1, i10, hh2, bd_s, r1, i10, if_neg s, if_pos (Int32.not_lt.mp t)]
    rfl
  · unfold f_X8_wrong
    rw [hm, bd_s, q1, i10, hm2, bd_s, r1, i10, in_in s t, bd_s, i10]
    rfl
theorem o_print {D L C : Nat} {μ η : Mm} (h : CR D L C μ η) (a b e : Int32) : OP D L C η [(1, 1), (2, 2), (3, 3)] (f_X5_whyNotPrintAt KF μ 9 a b e) (fun ν => f_X5_printAt KF ν 9 a b e) (f_X8_print KF η 139 a b e) := by
  obtain ⟨k, hk, e1, e2, e3⟩ := b_ask h a b e
  by_cases k0 : k = 0
  · subst k0
    obtain ⟨c, l, o, ⟨rfl, hc⟩, ⟨rfl, hl⟩, rfl, ho⟩ := e3 rfl
    obtain ⟨v, y1, y2, y3, y4⟩ := b_why h hc hl ho
    have ew : f_X5_whyNotPrintAt KF μ 9 (nI c) (nI l) (nI o) = some (if v = 0 then 0 else 3) := by
      unfold f_X5_whyNotPrintAt
      rw [e1, bd_s, show (nI 0 : Int32) = 0 from rfl, i00, y1]
      rfl
    by_cases v0 : v = 0
    · have hin := y4 v0
      refine Or.inr ⟨by rw [ew, if_pos v0], fun μ1 η1 h1 hs e140 => ?_⟩
      obtain ⟨x, μ2, η2, z1, z2, z3, z4, z5, z6⟩ := b_print h1 hc hl (o := o) (by rw [e140]; exact hin)
      refine ⟨x, μ2, η2, D, L, C, z1, ?_, z3, z4, z5, bnd0 z6 (by omega)⟩
      unfold f_X8_print
      rw [e2, bd_s, if_pos (show nI 0 ≤ 0 by decide), y2, bd_s, v0, if_pos (show (0 : Int32) ≤ 0 by decide), l1_s, th0, bd_s, l1_s, l1_s, i00, hs, bd_s, z2]
      rfl
    · have vp : ¬ v ≤ 0 := by
        rcases y3 with q | q
        · exact absurd q v0
        · exact Int32.not_le.mpr q
      refine Or.inl ⟨(3, 3), m3m.2.2, by rw [ew, if_neg v0]; rfl, ?_⟩
      unfold f_X8_print
      rw [e2, bd_s, if_pos (show nI 0 ≤ 0 by decide), y2, bd_s, if_neg vp, l1_s, th3, bd_s, l1_s, l1_s, i10]
  · rcases (show k = 1 ∨ k = 2 by omega) with rfl | rfl
    · refine Or.inl ⟨(1, 1), m3m.1, ?_, ?_⟩
      · unfold f_X5_whyNotPrintAt
        rw [e1]
        rfl
      · unfold f_X8_print
        rw [e2, bd_s, if_neg (show ¬ nI 1 ≤ 0 by decide), show f_X8_throwsAt KF η 139 (nI 1) = some (1, sI η 139 7 (nI 1)) from th1, bd_s, l1_s, l1_s, i10]
    · refine Or.inl ⟨(2, 2), m3m.2.1, ?_, ?_⟩
      · unfold f_X5_whyNotPrintAt
        rw [e1]
        rfl
      · unfold f_X8_print
        rw [e2, bd_s, if_neg (show ¬ nI 2 ≤ 0 by decide), show f_X8_throwsAt KF η 139 (nI 2) = some (1, sI η 139 7 (nI 2)) from th2, bd_s, l1_s, l1_s, i10]
end PureU
