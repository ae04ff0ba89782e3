/-! PURE: a byte more -/
section PureZ5
theorem q_type {m : Nat} {μ η : Mm} (hR : RF μ) (hR2 : RF η) (h : TX m μ η) (a : Int32) :
    (∃ n, n < 128 ∧ a = nI n ∧ m < 150 ∧ f_X7_type KF μ 0 a = some (nI (m + 1), sI (sI μ 2 m a) 1 1 (nI (m + 1))) ∧ f_X8_type KF η 139 a = some (nI (m + 1), sI (sI (sI η 139 7 0) 143 m a) 139 6 (nI (m + 1)))) ∨
    ∃ ck, ck ∈ [((2 : Nat), (1 : Nat)), (3, 2)] ∧ fx_X7_type KF μ 0 a = some (nI ck.1, μ) ∧ f_X8_type KF η 139 a = some (0, sI η 139 7 (nI ck.2)) := by
  obtain ⟨⟨t1, t2, t3⟩, t4⟩ := h
  by_cases s : a < 0
  · refine Or.inr ⟨(2, 1), m2m.1, ?_, ?_⟩
    · unfold fx_X7_type f_X1_whyNotAppend
      rw [r_00 hR, bd_s, if_pos s]
      rfl
    · unfold f_X8_type
      rw [in_lo s, bd_s, i00, th1, bd_s, l1_s, l1_s, i10]
  by_cases t : 127 < a
  · refine Or.inr ⟨(2, 1), m2m.1, ?_, ?_⟩
    · unfold fx_X7_type f_X1_whyNotAppend
      rw [r_00 hR, bd_s, if_neg s, if_neg (Int32.not_le.mpr t)]
      rfl
    · unfold f_X8_type
      rw [in_hi t, bd_s, i00, th1, bd_s, l1_s, l1_s, i10]
  obtain ⟨n, -, hn, rfl⟩ : bnd a 0 127 := bnd_of (by omega) s (by omega) t
  have ew : f_X1_whyNotAppend KF μ 1 (nI n) = some (if nI m < 150 then 0 else 3) := by
    unfold f_X1_whyNotAppend
    rw [if_neg s, if_pos (Int32.not_lt.mp t), t1, l1_s]
  by_cases e : m = 150
  · refine Or.inr ⟨(3, 2), m2m.2, ?_, ?_⟩
    · unfold fx_X7_type
      rw [r_00 hR, bd_s, ew, e]
      rfl
    · unfold f_X8_type
      rw [in_in s t, bd_s, i10, t2, e, if_pos (show nI 150 = 150 from rfl), l1_s, th2, bd_s, l1_s, l1_s, i10]
  · refine Or.inl ⟨n, by omega, rfl, by omega, ?_, ?_⟩
    · unfold f_X7_type f_X1_append
      rw [r_00 hR, bd_s, ew, if_pos (show nI m < 150 from nI_lt (b := 150) (by omega) (by omega)), bd_s, ref0, bd_s, bd_s]
      simp (disch := omega) only [r_10 hR, bd_s, l1_s, t1, K2, gd_n, ix_n, nar n (by omega), sI_no, sI_at, nI_1]
    · unfold f_X8_type
      have hne : ¬ nI m = 150 := by
        rw [show (150 : Int32) = nI 150 from rfl, eqN (by omega) (by omega)]
        exact e
      rw [in_in s t, bd_s, i10, t2, if_neg hne, l1_s, th0, bd_s, l1_s, l1_s, i00]
      simp (disch := omega) only [r_m5 hR2, rf_sI, bd_s, l1_s, sI_of, t2, K143, gd_n, ix_n, sI_no, sI_at, nI_1]
end PureZ5
