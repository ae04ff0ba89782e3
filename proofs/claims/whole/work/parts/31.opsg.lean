/-! PURE: a new label -/
section PureS
theorem o_addLabel {D L C : Nat} {μ η : Mm} (h : CR D L C μ η) (a b : Int32) : OP D L C η [(2, 1), (3, 2)] (f_X5_whyNotNewLabel KF μ 9 a b) (fun ν => f_X5_newLabel KF ν 9 a b) (f_X8_addLabel KF η 139 a b) := by
  have bad : ∀ {x : Option Int32}, x = some 2 → f_X8_addLabel KF η 139 a b = some (0, sI η 139 7 (nI 1)) → OP D L C η [(2, 1), (3, 2)] x (fun ν => f_X5_newLabel KF ν 9 a b) (f_X8_addLabel KF η 139 a b) := fun h1 h2 => Or.inl ⟨(2, 1), m2m.1, h1, h2⟩
  by_cases q1 : a < 1
  · refine bad ?_ ?_
    · unfold f_X5_whyNotNewLabel
      rw [if_pos q1]
    · unfold f_X8_addLabel
      rw [in_lo q1, bd_s, i00, th1, bd_s, l1_s, l1_s, i10]
  by_cases q2 : 12 < a
  · refine bad ?_ ?_
    · unfold f_X5_whyNotNewLabel
      rw [if_neg q1, if_pos q2]
    · unfold f_X8_addLabel
      rw [in_hi q2, bd_s, i00, th1, bd_s, l1_s, l1_s, i10]
  by_cases q3 : b < 1
  · refine bad ?_ ?_
    · unfold f_X5_whyNotNewLabel
      rw [if_neg q1, if_neg q2, if_pos q3]
    · unfold f_X8_addLabel
      rw [in_in q1 q2, bd_s, i10, in_lo q3, bd_s, i00, th1, bd_s, l1_s, l1_s, i10]
  by_cases q4 : 9 < b
  · refine bad ?_ ?_
    · unfold f_X5_whyNotNewLabel
      rw [if_neg q1, if_neg q2, if_neg q3, if_neg (Int32.not_le.mpr q4)]
    · unfold f_X8_addLabel
      rw [in_in q1 q2, bd_s, i10, in_hi q4, bd_s, i00, th1, bd_s, l1_s, l1_s, i10]
  have hL := h.2.2.2.2.1
  have e4 : μ.1 9 4 = nI L := h.2.2.1.2.2.2.1.1.trans hL.1
  have ew : f_X5_whyNotNewLabel KF μ 9 a b = some (if nI L < 6 then 0 else 3) := by
    unfold f_X5_whyNotNewLabel
    rw [if_neg q1, if_neg q2, if_neg q3, if_pos (Int32.not_lt.mp q4), e4, l1_s]
  by_cases q5 : L = 6
  · refine Or.inl ⟨(3, 2), m2m.2, by rw [ew, q5]; rfl, ?_⟩
    unfold f_X8_addLabel
    rw [in_in q1 q2, bd_s, i10, in_in q3 q4, bd_s, i10, r_m0 h.2.1, bd_s, show gd (inb 8 (KF 140).2) _ = _ from gd_n (d := 8) (n := 182) (by omega) (by omega), show ix 8 = 8 from rfl, hL.1, q5, if_pos (show nI 6 = 6 from rfl), l1_s, th2, bd_s, l1_s, l1_s, i10]
  obtain ⟨w, w1, w2, rfl⟩ : bnd a 1 12 := bnd_of (by omega) q1 (by omega) q2
  obtain ⟨bk, b1, b2, rfl⟩ : bnd b 1 9 := bnd_of (by omega) q3 (by omega) q4
  refine Or.inr ⟨by rw [ew, if_pos (show nI L < 6 from nI_lt (b := 6) (by omega) (by omega))], fun μ1 η1 h1 hs _ => ?_⟩
  obtain ⟨hR, hR2, hc, hw⟩ := h1
  have hD := hw.1
  have hC := hw.2.2.1
  have e41 : μ1.1 9 4 = nI L := hc.2.2.2.1.1.trans hw.2.1.1
  have c8 : η1.1 140 8 = nI L := hw.2.1.1
  obtain ⟨η2, x1, x2, x3, x4⟩ := lp0 (fun m j ν => f_X8_addLabel_l71 KF 139 (nI w) (nI bk) (nI (86 + 10 * L)) m ν (nI j)) 10 (by decide)
    (fun i ν => FrI (fun a => a = 140) η1 ν ∧ (∀ j, j < i → ν.1 140 (86 + 10 * L + j) = 0) ∧ ∀ j, (j < 86 + 10 * L ∨ 86 + 10 * L + 10 ≤ j) → ν.1 140 j = η1.1 140 j)
    (fun ν => FrI (fun a => a = 140) η1 ν ∧ (∀ j, j < 10 → ν.1 140 (86 + 10 * L + j) = 0) ∧ ∀ j, (j < 86 + 10 * L ∨ 86 + 10 * L + 10 ≤ j) → ν.1 140 j = η1.1 140 j)
    (by
      rintro m i ν hi ⟨p1, p2, p3⟩
      have hRν := hR2.fr p1
      refine Or.inr ⟨sI ν 140 (86 + 10 * L + i) 0, ?_, p1.sI rfl, fun j hj => ?_, fun j hj => ?_⟩
      · simp (disch := omega) only [f_X8_addLabel_l71, L10, leN, if_neg (Nat.not_le.mpr hi), r_m0 hRν, bd_s, l1_s, K140, nI_add, gd_n, ix_n, nI_succ i]
      · by_cases e : j = i
        · rw [e, sI_at]
        · rw [sI_of (by omega)]
          exact p2 j (by omega)
      · rw [sI_of (by omega)]
        exact p3 j hj)
    (by
      rintro m ν pq
      refine ⟨ν, ?_, pq⟩
      simp (disch := omega) only [f_X8_addLabel_l71, L10, leN, if_pos (Nat.le_refl 10)]) η1 ⟨FrI.rfl, fun j hj => absurd hj (by omega), fun _ _ => rfl⟩
  have hR22 := hR2.fr x2
  have c82 : η2.1 140 8 = nI L := by rw [x4 8 (by omega)]; exact c8
  let η3 := sI (sI (sI η2 140 (86 + 10 * L) (nI w)) 140 (86 + 10 * L + 1) (nI bk)) 140 8 (nI (L + 1))
  have n8 : η3.1 140 8 = nI (L + 1) := sI_at
  have n0 : η3.1 140 (86 + 10 * L) = nI w := by
    show (sI (sI (sI η2 140 (86 + 10 * L) (nI w)) 140 (86 + 10 * L + 1) (nI bk)) 140 8 (nI (L + 1))).1 140 (86 + 10 * L) = _
    simp (disch := omega) only [sI_of, sI_at]
  have n1 : η3.1 140 (86 + 10 * L + 1) = nI bk := by
    show (sI (sI (sI η2 140 (86 + 10 * L) (nI w)) 140 (86 + 10 * L + 1) (nI bk)) 140 8 (nI (L + 1))).1 140 (86 + 10 * L + 1) = _
    simp (disch := omega) only [sI_of, sI_at]
  have n2 : ∀ j, 2 ≤ j → j < 10 → η3.1 140 (86 + 10 * L + j) = 0 := fun j hj hj' => by
    show (sI (sI (sI η2 140 (86 + 10 * L) (nI w)) 140 (86 + 10 * L + 1) (nI bk)) 140 8 (nI (L + 1))).1 140 (86 + 10 * L + j) = _
    simp (disch := omega) only [sI_of]
    exact x3 j hj'
  have nn : ∀ j, j ≠ 8 → (j < 86 + 10 * L ∨ 86 + 10 * L + 10 ≤ j) → η3.1 140 j = η1.1 140 j := fun j hj hj' => by
    show (sI (sI (sI η2 140 (86 + 10 * L) (nI w)) 140 (86 + 10 * L + 1) (nI bk)) 140 8 (nI (L + 1))).1 140 j = _
    simp (disch := omega) only [sI_of]
    exact x4 j hj'
  have p6 := hc.2.2.2.2.2.1 L (Nat.le_refl L) (by omega)
  refine ⟨nI L, sI (sI (sI μ1 (17 + 2 * L) 0 (nI w)) (17 + 2 * L) 1 (nI bk)) 9 4 (nI (L + 1)), η3, D, L + 1, C, ?_, ?_, ⟨RF.sI (RF.sI (RF.sI hR)), RF.sI (RF.sI (RF.sI hR22)), hc.lab ⟨hD.2.2, hC.2⟩ (fun x hx => by rw [sI_rw (by omega), sI_rw (by omega), sI_rw (by omega)]) ⟨by simp (disch := omega) only [sI_of, sI_no], by simp (disch := omega) only [sI_of, sI_no]⟩ (fun j _ hj hj8 _ _ => nn j hj8 (by omega)) ?_ (fun l hl => ?_) (fun l hl hl6 => ?_), hw.lab (fun j _ hj hj8 _ _ => nn j hj8 (by omega)) n8 (by omega) (fun l hl => ?_) ?_ ?_⟩, ((FrI.rfl.sI ⟨by omega, by omega⟩).sI ⟨by omega, by omega⟩).sI ⟨by omega, by omega⟩, (((x2.mono (fun a ha => Or.inl ha)).sI (Or.inl rfl)).sI (Or.inl rfl)).sI (Or.inl rfl), nI_pos (by omega)⟩
  · show f_X5_newLabel KF μ1 9 (nI w) (nI bk) = _
    unfold f_X5_newLabel
    simp (disch := omega) only [r_93 hR, rf_sI, bd_s, l1_s, e41, K15, gd_n, ix_n, r_lab hR (show L < 6 by omega), sI_no, sI_at, nI_1, nI_pred]
  · unfold f_X8_addLabel
    have t0 : (if nI L = 6 then (2 : Int32) else 0) = 0 := if_neg (by rw [L6, eqN (by omega) (by omega)]; exact q5)
    rw [in_in q1 q2, bd_s, i10, in_in q3 q4, bd_s, i10, r_m0 h.2.1, bd_s, show gd (inb 8 (KF 140).2) _ = _ from gd_n (d := 8) (n := 182) (by omega) (by omega), show ix 8 = 8 from rfl, hL.1, t0, l1_s, th0, bd_s, l1_s, l1_s, i00, hs, bd_s, r_m0 hR2, bd_s, show gd (inb 8 (KF 140).2) _ = _ from gd_n (d := 8) (n := 182) (by omega) (by omega), c8, l1_s, show (86 : Int32) + 10 * nI L = nI (86 + 10 * L) by rw [L86, L10, pk_mul, nI_add], show f_X8_addLabel_l71 KF 139 (nI w) (nI bk) (nI (86 + 10 * L)) FU η1 0 = some η2 from x1, bd_s, l1_s]
    simp (disch := omega) only [r_m0 hR22, rf_sI, bd_s, l1_s, L0, L8, Nat.add_zero, K140, gd_n, ix_n, nI_1, nI_add, sI_of, c82, sI_at, nI_pred]
    rfl
  · rw [sI_at, n8]
  · by_cases e : l = L
    · subst e
      refine ⟨?_, fun r hr => ?_⟩
      · simp (disch := omega) only [sI_no, sI_of, sI_at]
        exact ⟨n0.symm, n1.symm, p6.1.1.trans (n2 8 (by omega) (by omega)).symm, p6.1.2.trans (n2 9 (by omega) (by omega)).symm⟩
      · simp (disch := omega) only [sI_no]
        exact (p6.2 r hr).trans (n2 (2 + r) (by omega) (by omega)).symm
    · refine ⟨?_, fun r hr => ?_⟩
      · simp (disch := omega) only [sI_no, nn]
        exact cpl_lab hc (by omega)
      · simp (disch := omega) only [sI_no, nn]
        exact cpl_row hc (by omega) hr
  · simp (disch := omega) only [sI_no]
    exact hc.2.2.2.2.2.1 l (by omega) hl6
  · by_cases e : l = L
    · subst e
      exact ⟨⟨w, w1, w2, n0, fun r hr => ⟨0, by omega, by omega, n2 (2 + r) (by omega) (by omega)⟩⟩, ⟨bk, b1, b2, n1⟩⟩
    · obtain ⟨⟨x, y1, y2, y3, y4⟩, y⟩ := hw.2.2.2.2.2.1 l (by omega)
      exact ⟨⟨x, y1, y2, by rw [nn _ (by omega) (by omega)]; exact y3, fun r hr => by rw [nn _ (by omega) (by omega)]; exact y4 r hr⟩, by rw [nn _ (by omega) (by omega)]; exact y⟩
  · show sumL (η3.1 140) 8 L + η3.1 140 (86 + 10 * L + 8) = _
    have es : sumL (η3.1 140) 8 L = sumL (η1.1 140) 8 L := by
      rw [sumL_Sm, sumL_Sm]
      exact Sm_cong (fun d hd => nn _ (by omega) (by omega))
    rw [es, n2 8 (by omega) (by omega), nn 11 (by omega) (by omega), Int32.add_zero]
    exact hw.2.2.2.2.2.2.2.2.1
  · show sumL (η3.1 140) 9 L + η3.1 140 (86 + 10 * L + 9) = _
    have es : sumL (η3.1 140) 9 L = sumL (η1.1 140) 9 L := by
      rw [sumL_Sm, sumL_Sm]
      exact Sm_cong (fun d hd => nn _ (by omega) (by omega))
    rw [es, n2 9 (by omega) (by omega), nn 12 (by omega) (by omega), Int32.add_zero]
    exact hw.2.2.2.2.2.2.2.2.2
end PureS
