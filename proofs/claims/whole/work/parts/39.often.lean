/-! PURE: how often a label can be printed and read -/
section PureZ2
theorem b_often {D L C l o : Nat} {μ η : Mm} (h : CR D L C μ η) (hl : l < L) (ho : ∀ w, η.1 140 (86 + 10 * l) = nI w → w ≤ 12 → o + w ≤ D) :
    ∃ v μ' ηc η', f_X5_readableAt KF μ 9 (nI l) (nI o) = some (v, μ') ∧ f_X8_copies KF η 139 = some ηc ∧ f_X8_readableFor_l35 KF 139 (nI l) (nI o) FU ηc 0 = some (v, η') ∧ FT μ μ' ∧ FW η η' := by
  obtain ⟨w, bw, ew, eb, hN⟩ := wf_PN h.2.2.2 hl (k := 141) (Or.inr rfl)
  have how := ho w ew hN.2.2.1.2
  have hl6 := hN.1
  obtain ⟨μ1, η1, c0, c1, e1, e2, t1, t2, hPC, hPR⟩ := b_part h hl ew eb how
  obtain ⟨a, b, y1, y2, z1, z2, z3⟩ := lpp (fun n d (t : Mm) => f_X5_readableAt_l23 KF 9 (nI l) n t (nI d)) (fun n d (u : Mm) => f_X8_readableFor_l35 KF 139 (nI l) (nI o) n u (nI d)) 100
    (fun _ t u => PC l 141 w bw D (η.1 140) (fun r => η.1 140 (86 + 10 * l + (2 + r))) t u ∧ PR 5 141 o w c0 c1 t u ∧ FT μ t ∧ FW η u) (fun a b => a.1 = b.1 ∧ FT μ a.2 ∧ FW η b.2)
    (by
      rintro n d t u hd ⟨p1, p2, p3, p4⟩
      obtain ⟨v, t', u', x1, x2, x3, x4, x5, -⟩ := b_play (q := 0) hN (Or.inr rfl) p1 p2 (by omega) (by omega)
      rw [Nat.zero_add] at x2
      have q1 := p1.fr hN (Or.inr rfl) x4 x5
      have s1 : t'.1 14 5 = η.1 140 6 := q1.2.2.1 5 (by omega)
      have s2 : u'.1 141 6 = η.1 140 6 := q1.2.2.2.2.1 6 (by omega) (by omega)
      have x1' : f_X3_printRows KF t 5 (17 + 2 * l) 0 14 = some (v, t') := x1
      have eF : f_X5_readableAt_l23 KF 9 (nI l) (n + 1) t (nI d) = if η.1 140 6 < v then some (nI d, t') else f_X5_readableAt_l23 KF 9 (nI l) n t' (nI (d + 1)) := by
        rw [nI_succ d]
        simp (disch := omega) only [f_X5_readableAt_l23, show (100 : Int32) = nI 100 by decide +kernel, leN, if_neg (Nat.not_le.mpr hd), r_91 p1.1, r_93 p1.1, r_92 p1.1, r_lab p1.1 hl6, K15, K14, L5, gd_n, ix_n, x1', bd_s, l1_s, r_92 q1.1, s1]
      have eG : f_X8_readableFor_l35 KF 139 (nI l) (nI o) (n + 1) u (nI d) = if η.1 140 6 < v then some (nI d, u') else f_X8_readableFor_l35 KF 139 (nI l) (nI o) n u' (nI (d + 1)) := by
        rw [nI_succ d]
        simp (disch := omega) only [f_X8_readableFor_l35, show (100 : Int32) = nI 100 by decide +kernel, leN, if_neg (Nat.not_le.mpr hd), r_m1 p1.2.1, x2, bd_s, l1_s, r_m1 q1.2.1, K141, L6, gd_n, ix_n, s2]
      by_cases c : η.1 140 6 < v
      · exact Or.inl ⟨(nI d, t'), (nI d, u'), by rw [eF, if_pos c], by rw [eG, if_pos c], rfl, p3.trans (FC5 x4), p4.trans (FM141 x5)⟩
      · exact Or.inr ⟨t', u', by rw [eF, if_neg c], by rw [eG, if_neg c], q1, x3, p3.trans (FC5 x4), p4.trans (FM141 x5)⟩)
    (by
      rintro n t u ⟨p1, p2, p3, p4⟩
      refine ⟨(nI 100, t), (nI 100, u), ?_, ?_, rfl, p3, p4⟩
      · simp (disch := omega) only [f_X5_readableAt_l23, show (100 : Int32) = nI 100 by decide +kernel, leN, if_pos (Nat.le_refl 100)]
      · simp (disch := omega) only [f_X8_readableFor_l35, show (100 : Int32) = nI 100 by decide +kernel, leN, if_pos (Nat.le_refl 100)]) 100 0 μ1 η1 FU (by omega) (by unfold FU; omega) ⟨hPC, hPR, t1, t2⟩
  obtain ⟨a1, μ'⟩ := a
  obtain ⟨b1, η'⟩ := b
  have z1 : a1 = b1 := z1
  subst z1
  have a0 := (cpl_lab h.2.2.1 hl).1.trans ew
  refine ⟨a1, μ', η1, η', ?_, e2, y2, z2, z3⟩
  unfold f_X5_readableAt
  have hR := h.1
  simp (disch := omega) only [r_90 hR, r_91 hR, r_93 hR, bd_s, l1_s, K15, gd_n, ix_n, r_lab hR hl6, a0, e1]
  rw [show f_X5_readableAt_l23 KF 9 (nI l) FU μ1 0 = some (a1, μ') from y1]
  rfl
end PureZ2
