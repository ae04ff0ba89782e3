/-! PURE: rows of labels, customers come, rents end -/
section PureO
theorem m2m {a b : Nat × Nat} : a ∈ [a, b] ∧ b ∈ [a, b] := ⟨List.mem_cons_self, List.mem_cons_of_mem _ List.mem_cons_self⟩
theorem o_setRow {D L C : Nat} {μ η : Mm} (h : CR D L C μ η) (a b c : Int32) : OP D L C η [(1, 1), (2, 2)] (f_X5_whyNotChangeRow KF μ 9 a b c) (fun ν => f_X5_changeRow KF ν 9 a b c) (f_X8_setRow KF η 139 a b c) := by
  have hL := h.2.2.2.2.1
  have hh := c_hasLabel h a
  have hm := m_isLabel h.2.1 h.2.2.2 a
  by_cases q : has a L = 0
  · refine Or.inl ⟨(1, 1), m2m.1, ?_, ?_⟩
    · unfold f_X5_whyNotChangeRow
      rw [hh, bd_s, if_pos q]
      rfl
    · unfold f_X8_setRow
      rw [hm, bd_s, if_pos q, th1, bd_s, l1_s, l1_s, i10]
  · obtain ⟨l, hl, rfl, q1⟩ := has_yes q (by omega)
    have bad : ∀ {x : Option Int32}, x = some 2 → f_X8_setRow KF η 139 (nI l) b c = some (0, sI η 139 7 (nI 2)) → OP D L C η [(1, 1), (2, 2)] x (fun ν => f_X5_changeRow KF ν 9 (nI l) b c) (f_X8_setRow KF η 139 (nI l) b c) := fun h1 h2 => Or.inl ⟨(2, 2), m2m.2, h1, h2⟩
    rcases pk_ix b (n := 6) (by omega) with r | r | ⟨r, hr, rfl⟩
    · refine bad ?_ ?_
      · unfold f_X5_whyNotChangeRow
        rw [hh, bd_s, q1, i10, if_pos r]
      · unfold f_X8_setRow
        rw [hm, bd_s, q1, i10, in_lo r, bd_s, i00, th2, bd_s, l1_s, l1_s, i10]
    · refine bad ?_ ?_
      · unfold f_X5_whyNotChangeRow
        rw [hh, bd_s, q1, i10, if_neg (show ¬ b < 0 from fun q' => nI_pos (n := 6) (by omega) (Int32.lt_of_le_of_lt r q')), if_pos (show (6 : Int32) ≤ b from r)]
      · unfold f_X8_setRow
        rw [hm, bd_s, q1, i10, in_hi (show (5 : Int32) < b from Int32.lt_of_lt_of_le (by decide) r), bd_s, i00, th2, bd_s, l1_s, l1_s, i10]
    · have hin : f_X8_in (nI r) 0 5 = some 1 := in_in (nI_pos (by omega)) (nI_nlt (a := 5) (by omega) (by omega))
      obtain ⟨⟨w, w1, w2, w3, w4⟩, -⟩ := h.2.2.2.2.2.2.2.2.1 l hl
      have a0 := (cpl_lab h.2.2.1 hl).1.trans w3
      have hm0 := m_labelOf h.2.1 (l := l) (j := 0) (by omega) (by omega)
      have hm0 : f_X8_labelOf KF η 139 (nI l) 0 = some (nI w) := by
        rw [← w3]
        exact hm0
      have hcol := cols w w2
      have hw31 := pow12 w w2
      have hac : f_X4_allColumns KF μ (17 + 2 * l) = some (nI (2 ^ w - 1)) := by
        unfold f_X4_allColumns
        rw [a0, hcol]
      have n6 : ¬ (6 : Int32) ≤ nI r := nI_ge (b := 6) hr (by omega)
      by_cases c0 : c < 0
      · refine bad ?_ ?_
        · unfold f_X5_whyNotChangeRow
          rw [hh, bd_s, q1, i10, if_neg (nI_pos (by omega)), if_neg n6, if_pos c0]
        · unfold f_X8_setRow
          rw [hm, bd_s, q1, i10, hin, bd_s, i10, hm0, bd_s, hcol, in_lo c0, bd_s, i00, l1_s, th2, bd_s, l1_s, l1_s, i10]
      · have ew : f_X5_whyNotChangeRow KF μ 9 (nI l) (nI r) c = some (if nI (2 ^ w - 1) < c then 2 else 0) := by
          unfold f_X5_whyNotChangeRow
          rw [hh, bd_s, q1, i10, if_neg (nI_pos (by omega)), if_neg n6, if_neg c0]
          simp (disch := omega) only [r_93 h.1, bd_s, K15, gd_n, ix_n, r_lab h.1 (show l < 6 by omega), hac, l1_s]
          by_cases t : nI (2 ^ w - 1) < c
          · simp only [if_pos t, if_true]
          · simp only [if_neg t, i10]
        by_cases t : nI (2 ^ w - 1) < c
        · refine bad (by rw [ew, if_pos t]) ?_
          unfold f_X8_setRow
          rw [hm, bd_s, q1, i10, hin, bd_s, i10, hm0, bd_s, hcol, in_hi t, bd_s, i00, l1_s, th2, bd_s, l1_s, l1_s, i10]
        · refine Or.inr ⟨by rw [ew, if_neg t], fun μ1 η1 h1 hs e140 => ?_⟩
          obtain ⟨hR, hR2, hc, hwf⟩ := h1
          have hD := hwf.1
          have hC := hwf.2.2.1
          have w3' : η1.1 140 (86 + 10 * l) = nI w := by rw [e140]; exact w3
          have hrow := cpl_row hc hl hr
          have hb : bnd c 0 (2 ^ w - 1) := bnd_of (by omega) (show ¬ c < nI 0 from c0) (by omega) t
          have ho : bnd (η1.1 140 (86 + 10 * l + (2 + r))) 0 4096 := by
            obtain ⟨x, hx, ex⟩ := wf_row hwf hl hr
            exact ⟨x, by omega, by omega, ex⟩
          have gg : ∀ i, i ≠ 86 + 10 * l + 2 + r → (sI η1 140 (86 + 10 * l + 2 + r) c).1 140 i = η1.1 140 i := fun i hi => sI_of hi
          have ga : (sI η1 140 (86 + 10 * l + 2 + r) c).1 140 (86 + 10 * l + (2 + r)) = c := by
            rw [show 86 + 10 * l + (2 + r) = 86 + 10 * l + 2 + r by omega]
            exact sI_at
          refine ⟨η1.1 140 (86 + 10 * l + (2 + r)), sI μ1 (18 + 2 * l) r c, sI η1 140 (86 + 10 * l + 2 + r) c, D, L, C, ?_, ?_, ⟨hR, hR2, hc.lab ⟨hD.2.2, hC.2⟩ (fun x hx => sI_rw (by omega)) ⟨sI_no (by omega), sI_no (by omega)⟩ (fun j _ hj _ _ _ => gg j (by omega)) ?_ (fun l' hl' => ⟨?_, fun r' hr' => ?_⟩) (fun l' hl' hl6 => ?_), hwf.lab (fun j _ hj _ _ _ => gg j (by omega)) (by rw [gg _ (by omega)]; exact hwf.2.1.1) hL.2 (fun l' hl' => ?_) ?_ ?_⟩, FrI.rfl.sI (by constructor <;> omega), FrI.rfl.sI (Or.inl rfl), bnd0 ho (by omega)⟩
          · show f_X5_changeRow KF μ1 9 (nI l) (nI r) c = _
            unfold f_X5_changeRow
            simp (disch := omega) only [r_93 hR, bd_s, l1_s, K15, gd_n, ix_n, r_lab hR (show l < 6 by omega), r_row hR (show l < 6 by omega), K_row l (by omega), hrow]
          · have hm2 := m_labelOf hR2 (l := l) (j := 2 + r) (by omega) (by omega)
            unfold f_X8_setRow
            rw [hm, bd_s, q1, i10, hin, bd_s, i10, hm0, bd_s, hcol, in_in c0 t, bd_s, i10, l1_s, th0, bd_s, l1_s, l1_s, i00, hs, bd_s]
            simp (disch := omega) only [r_m0 hR2, bd_s, L2, L86, L10, nI_add, pk_mul, hm2, K140, gd_n, ix_n, l1_s]
          · rw [sI_no (by omega), gg _ (by omega)]
            exact hc.2.2.2.1.1
          · simp (disch := omega) only [sI_no, gg]
            exact cpl_lab hc hl'
          · by_cases e : l' = l
            · subst e
              by_cases e' : r' = r
              · subst e'
                rw [sI_at, ga]
              · rw [sI_of e', gg _ (by omega)]
                exact cpl_row hc hl' hr'
            · rw [sI_no (by omega), gg _ (by omega)]
              exact cpl_row hc hl' hr'
          · simp (disch := omega) only [sI_no]
            exact hc.2.2.2.2.2.1 l' hl' hl6
          · obtain ⟨⟨x, x1, x2, x3, x4⟩, y⟩ := hwf.2.2.2.2.2.1 l' hl'
            refine ⟨⟨x, x1, x2, by rw [gg _ (by omega)]; exact x3, fun r' hr' => ?_⟩, by rw [gg _ (by omega)]; exact y⟩
            by_cases e : l' = l ∧ r' = r
            · obtain ⟨rfl, rfl⟩ := e
              rw [ga]
              rw [w3'] at x3
              rw [eqN (by omega) (by omega)] at x3
              subst x3
              exact hb
            · rw [gg _ (by omega)]
              exact x4 r' hr'
          · rw [sumL.cong (fun i _ => gg _ (by omega)) L hL.2, gg _ (by omega)]
            exact hwf.2.2.2.2.2.2.2.2.1
          · rw [sumL.cong (fun i _ => gg _ (by omega)) L hL.2, gg _ (by omega)]
            exact hwf.2.2.2.2.2.2.2.2.2
theorem o_addCustomer {D L C : Nat} {μ η : Mm} (h : CR D L C μ η) : OP D L C η [(3, 1)] (f_X5_whyNotNewCustomer KF μ 9) (fun ν => f_X5_newCustomer KF ν 9) (f_X8_addCustomer KF η 139) := by
  have hC := h.2.2.2.2.2.1
  have e6 : μ.1 9 6 = nI C := h.2.2.1.2.2.2.1.2.1.trans hC.1
  by_cases q : C = 6
  · refine Or.inl ⟨(3, 1), List.mem_singleton.mpr rfl, ?_, ?_⟩
    · unfold f_X5_whyNotNewCustomer
      rw [e6, q]
      rfl
    · unfold f_X8_addCustomer
      simp (disch := omega) only [r_m0 h.2.1, bd_s, L9, K140, gd_n, ix_n, hC.1, q]
      rw [if_pos (show nI 6 = 6 from rfl), l1_s, th1, bd_s, l1_s, l1_s, i10]
  · refine Or.inr ⟨?_, fun μ1 η1 h1 hs _ => ?_⟩
    · unfold f_X5_whyNotNewCustomer
      rw [e6, if_pos (show nI C < 6 from nI_lt (b := 6) (by omega) (by omega))]
      rfl
    · obtain ⟨hR, hR2, hc, hwf⟩ := h1
      have hD := hwf.1
      have hL := hwf.2.1
      have e61 : μ1.1 9 6 = nI C := hc.2.2.2.1.2.1.trans hwf.2.2.1.1
      obtain ⟨η2, e3, f3, g3, k3⟩ := lp0 (fun m j ν => f_X8_addCustomer_l40 KF 139 (nI C) m ν (nI j)) 6 (by decide)
        (fun i ν => FrI (fun a => a = 140) η1 ν ∧ (∀ j, j < i → ν.1 140 (146 + 6 * C + j) = 0) ∧ ∀ j, (j < 146 + 6 * C ∨ 146 + 6 * C + 6 ≤ j) → ν.1 140 j = η1.1 140 j)
        (fun ν => FrI (fun a => a = 140) η1 ν ∧ (∀ j, j < 6 → ν.1 140 (146 + 6 * C + j) = 0) ∧ ∀ j, (j < 146 + 6 * C ∨ 146 + 6 * C + 6 ≤ j) → ν.1 140 j = η1.1 140 j)
        (by
          rintro m i ν hi ⟨p1, p2, p3⟩
          have hRν := hR2.fr p1
          refine Or.inr ⟨sI ν 140 (146 + 6 * C + i) 0, ?_, p1.sI rfl, fun j hj => ?_, fun j hj => ?_⟩
          · simp (disch := omega) only [f_X8_addCustomer_l40, L6, L146, leN, if_neg (Nat.not_le.mpr hi), r_m0 hRν, bd_s, l1_s, K140, nI_add, pk_mul, gd_n, ix_n, nI_succ i]
          · by_cases e : j = i
            · rw [e, sI_at]
            · rw [sI_of (by omega)]
              exact p2 j (by omega)
          · rw [sI_of (by omega)]
            exact p3 j hj)
        (by
          rintro m ν pq
          refine ⟨ν, ?_, pq⟩
          simp (disch := omega) only [f_X8_addCustomer_l40, L6, leN, if_pos (Nat.le_refl 6)]) η1 ⟨FrI.rfl, fun j hj => absurd hj (by omega), fun _ _ => rfl⟩
      have hR22 := hR2.fr f3
      let η3 := sI (sI (sI η2 140 (146 + 6 * C) (-1)) 140 (146 + 6 * C + 1) (-1)) 140 9 (nI (C + 1))
      have n9 : η3.1 140 9 = nI (C + 1) := sI_at
      have n0 : η3.1 140 (146 + 6 * C) = -1 := by
        show (sI (sI (sI η2 140 (146 + 6 * C) (-1)) 140 (146 + 6 * C + 1) (-1)) 140 9 (nI (C + 1))).1 140 (146 + 6 * C) = -1
        simp (disch := omega) only [sI_of, sI_at]
      have n1 : η3.1 140 (146 + 6 * C + 1) = -1 := by
        show (sI (sI (sI η2 140 (146 + 6 * C) (-1)) 140 (146 + 6 * C + 1) (-1)) 140 9 (nI (C + 1))).1 140 (146 + 6 * C + 1) = -1
        simp (disch := omega) only [sI_of, sI_at]
      have n2 : ∀ j, 2 ≤ j → j < 6 → η3.1 140 (146 + 6 * C + j) = 0 := fun j hj hj' => by
        show (sI (sI (sI η2 140 (146 + 6 * C) (-1)) 140 (146 + 6 * C + 1) (-1)) 140 9 (nI (C + 1))).1 140 (146 + 6 * C + j) = 0
        simp (disch := omega) only [sI_of]
        exact g3 j hj'
      have nn : ∀ j, j ≠ 9 → (j < 146 + 6 * C ∨ 146 + 6 * C + 6 ≤ j) → η3.1 140 j = η1.1 140 j := fun j hj hj' => by
        show (sI (sI (sI η2 140 (146 + 6 * C) (-1)) 140 (146 + 6 * C + 1) (-1)) 140 9 (nI (C + 1))).1 140 j = _
        simp (disch := omega) only [sI_of]
        exact k3 j hj'
      refine ⟨nI C, sI μ1 9 6 (nI (C + 1)), η3, D, L, C + 1, ?_, ?_, ⟨hR, hR22, hc.cus ⟨hD.2.2, hL.2⟩ (fun a ha ha' => sI_rw (by omega)) ⟨sI_of (by omega), sI_of (by omega)⟩ (fun j hj hj' => nn j hj' (by omega)) ?_ (fun k hk j hj => ?_) (fun k hk hk' => ?_), hwf.cus (fun j hj hj' => nn j hj' (by omega)) n9 (by omega) (fun k hk => ?_) (fun j k d hj hk hd r r' => ?_)⟩, FrI.rfl.sI (by constructor <;> omega), ?_, nI_pos (by omega)⟩
      · show f_X5_newCustomer KF μ1 9 = _
        unfold f_X5_newCustomer
        rw [e61, nI_1, l1_s, sI_at, nI_pred]
      · unfold f_X8_addCustomer f_X8_frees
        have e3' : f_X8_addCustomer_l40 KF 139 (nI C) FU η1 0 = some η2 := e3
        have c9 : η.1 140 9 = nI C := hC.1
        have c91 : η1.1 140 9 = nI C := hwf.2.2.1.1
        have c92 : η2.1 140 9 = nI C := by rw [k3 9 (by omega)]; exact c91
        have t0 : (if nI C = 6 then (1 : Int32) else 0) = 0 := if_neg (by rw [L6, eqN (by omega) (by omega)]; exact q)
        have z9 : (sI (sI η2 140 (146 + 6 * C) (-1)) 140 (146 + 6 * C + 1) (-1)).1 140 9 + 1 = nI (C + 1) := by
          simp (disch := omega) only [sI_of, c92]
          exact nI_1 C
        rw [r_m0 h.2.1, bd_s, show gd (inb 9 (KF 140).2) _ = _ from gd_n (d := 9) (n := 182) (by omega) (by omega), show ix 9 = 9 from rfl, c9, t0, l1_s, th0, bd_s, l1_s, l1_s, i00, hs, bd_s, r_m0 hR2, bd_s, show gd (inb 9 (KF 140).2) _ = _ from gd_n (d := 9) (n := 182) (by omega) (by omega), c91, l1_s, e3', bd_s, l1_s]
        simp (disch := omega) only [r_m0 hR22, rf_sI, bd_s, l1_s, L146, L6, L9, nI_add, pk_mul, L0, Nat.add_zero, K140, gd_n, ix_n, nI_1]
        rw [z9]
      · rw [sI_at, n9]
      · by_cases e : k = C
        · subst e
          have p8 := hc.2.2.2.2.2.2.2 k (Nat.le_refl k) (by omega)
          rw [sI_rw (by omega)]
          by_cases e0 : j = 0
          · subst e0
            exact p8.1.trans n0.symm
          · by_cases e1 : j = 1
            · subst e1
              exact p8.2.1.trans n1.symm
            · exact (p8.2.2 j (by omega) hj).trans (n2 j (by omega) hj).symm
        · rw [sI_rw (by omega), nn _ (by omega) (by omega)]
          exact cpl_cus hc (by omega) hj
      · rw [sI_rw (by omega)]
        exact hc.2.2.2.2.2.2.2 k (by omega) hk'
      · by_cases e : k = C
        · subst e
          exact Or.inl ⟨n0, n1⟩
        · rw [nn _ (by omega) (by omega), nn _ (by omega) (by omega)]
          exact hwf.2.2.2.2.2.2.1 k (by omega)
      · have hne : ∀ k, rents (η3.1 140) k d → k ≠ C := fun k r e => by
          subst e
          exact r.1 n0
        have cv : ∀ k, k < C → rents (η3.1 140) k d → rents (η1.1 140) k d := fun k hk r => by
          unfold rents at *
          rwa [nn _ (by omega) (by omega), nn _ (by omega) (by omega)] at r
        have hj' := hne j r
        have hk' := hne k r'
        exact hwf.2.2.2.2.2.2.2.1 j k d (by omega) (by omega) hd (cv j (by omega) r) (cv k (by omega) r')
      · exact (((f3.mono (fun a ha => Or.inl ha)).sI (Or.inl rfl)).sI (Or.inl rfl)).sI (Or.inl rfl)
end PureO
