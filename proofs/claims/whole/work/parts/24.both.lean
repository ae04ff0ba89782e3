/-! PURE: both save alike; both undo alike; the text beside it -/
section PureL
theorem Cpl.rows {μ μ' : Mm} {b D L C : Nat} {f : Nat → Int32} (hD : L ≤ 6 ∧ C ≤ 6) (h : Cpl μ b f D L C) (e : ∀ a, b ≤ a → a ≤ b + 25 → μ'.1 a = μ.1 a) : Cpl μ' b f D L C := h.fr hD e
theorem CR.cg {D L C : Nat} {μ η μ' η' : Mm} (h : CR D L C μ η) (hR : RF μ') (hR2 : RF η') (e : ∀ a, 9 ≤ a → a ≤ 34 → μ'.1 a = μ.1 a) (e' : ∀ j, j < 182 → η'.1 140 j = η.1 140 j) : CR D L C μ' η' := by
  obtain ⟨-, -, hc, hw⟩ := h
  have hD := hw.1
  have hL := hw.2.1
  have hC := hw.2.2.1
  exact ⟨hR, hR2, (hc.fr ⟨hL.2, hC.2⟩ (fun a ha ha' => e a ha (by omega))).cong ⟨hD.2.2, hL.2, hC.2⟩ e', hw.cong e'⟩
theorem SV.cg {n : Nat} {μ η μ' η' : Mm} (h : SV n μ η) (e0 : μ'.1 0 2 = μ.1 0 2) (e4 : μ'.2.1 4 = μ.2.1 4) (e : ∀ a, 35 ≤ a → a ≤ 138 → μ'.1 a = μ.1 a) (e3 : η'.1 139 3 = η.1 139 3) (e2 : η'.1 142 = η.1 142) : SV n μ' η' := by
  obtain ⟨⟨h1, h2, h3⟩, p, hp, hs⟩ := h
  refine ⟨⟨e0.trans h1, e3.trans h2, h3⟩, p, ⟨fun j hj => by rw [e4]; exact hp.1 j hj, hp.2⟩, fun i hi => ?_⟩
  obtain ⟨D, L, C, c, w⟩ := hs i hi
  have hL := w.2.1
  have hC := w.2.2.1
  have ep : past η' i = past η i := by
    funext j
    show η'.1 142 _ = η.1 142 _
    rw [e2]
  obtain ⟨-, hb, hb9⟩ := hp.1 i (by omega)
  refine ⟨D, L, C, ?_, by rw [ep]; exact w⟩
  rw [ep]
  refine c.fr ⟨hL.2, hC.2⟩ (fun a ha ha' => e a ?_ ?_)
  · rcases hb with h | h | h | h | h <;> omega
  · rcases hb with h | h | h | h | h <;> omega
/-- the command texts -/
def TX (m : Nat) (μ η : Mm) : Prop := (μ.1 1 1 = nI m ∧ η.1 139 6 = nI m ∧ m ≤ 150) ∧ ∀ j, j < m → μ.1 2 j = η.1 143 j ∧ bnd (η.1 143 j) 0 127
theorem TX.cg {m : Nat} {μ η μ' η' : Mm} (h : TX m μ η) (e1 : μ'.1 1 1 = μ.1 1 1) (e2 : μ'.1 2 = μ.1 2) (e3 : η'.1 139 6 = η.1 139 6) (e4 : η'.1 143 = η.1 143) : TX m μ' η' := by
  unfold TX at *
  rw [e1, e2, e3, e4]
  exact h
theorem FS.rf {μ μ' : Mm} (h : FS μ μ') (hR : RF μ) : RF μ' := hR.cg (fun k j hk _ => by rw [h.2.1 k hk])
theorem b_save {D L C n : Nat} {μ η : Mm} (h : CR D L C μ η) (hs : SV n μ η) (h4 : η.1 139 4 = 0) : ∃ n' μ' η', f_X7_save KF μ 0 = some μ' ∧ f_X8_saves KF η 139 = some η' ∧ CR D L C μ' η' ∧ SV n' μ' η' ∧ FS μ μ' ∧ FP η η' := by
  obtain ⟨⟨s1, s2, s3⟩, p, hp, hq⟩ := hs
  obtain ⟨μ', q, e1, f1, pm, c⟩ := c_save h.1 s3 s1 hp
  obtain ⟨η', e2, f2, d⟩ := m_saves h.2.1 s3 s2 h4
  have hR := f1.rf h.1
  have hR2 : RF η' := h.2.1.fr f2.1
  have e140 : η'.1 140 = η.1 140 := f2.1.2 140 (by intro h; have h : 140 = 139 ∨ 140 = 142 := h; omega)
  have hc' : CR D L C μ' η' := h.cg hR hR2 (fun a ha ha' => f1.1 a (by omega)) (fun j _ => by rw [e140])
  have hD := h.2.2.2.1
  have hL := h.2.2.2.2.1
  have hC := h.2.2.2.2.2.1
  rcases c with ⟨c0, c1, c2, c3⟩ | ⟨c0, c1, c2, c3⟩
  · rcases d with ⟨d0, d1, d2, d3⟩ | ⟨d0, -⟩
    · refine ⟨n + 1, μ', η', e1, e2, hc', ⟨⟨c1, d1, by omega⟩, q, pm, fun i hi => ?_⟩, f1, f2⟩
      by_cases e : i = n
      · subst e
        exact ⟨D, L, C, (c3.cpl ⟨hD.2.2, hL.2, hC.2⟩ h.2.2.1).cong ⟨hD.2.2, hL.2, hC.2⟩ d3, h.2.2.2.cong d3⟩
      · obtain ⟨D', L', C', x1, x2⟩ := hq i (by omega)
        have eq : q i = p i := (c2 i (by omega) (q i) (Nat.le_refl _) (by omega)).1
        refine ⟨D', L', C', ?_, x2.cong (d2 i (by omega))⟩
        refine Cpl.cong ⟨x2.1.2.2, x2.2.1.2, x2.2.2.1.2⟩ (d2 i (by omega)) ?_
        rw [eq]
        exact x1.fr ⟨x2.2.1.2, x2.2.2.1.2⟩ (fun a ha ha' => (c2 i (by omega) a (by omega) (by omega)).2)
    · omega
  · rcases d with ⟨d0, -⟩ | ⟨d0, d1, d2, d3⟩
    · omega
    · refine ⟨4, μ', η', e1, e2, hc', ⟨⟨c1, d1, by omega⟩, q, pm, fun i hi => ?_⟩, f1, f2⟩
      by_cases e : i = 3
      · subst e
        exact ⟨D, L, C, (c3.cpl ⟨hD.2.2, hL.2, hC.2⟩ h.2.2.1).cong ⟨hD.2.2, hL.2, hC.2⟩ d3, h.2.2.2.cong d3⟩
      · obtain ⟨D', L', C', x1, x2⟩ := hq (i + 1) (by omega)
        have eq : q i = p (i + 1) := (c2 i (by omega) (q i) (Nat.le_refl _) (by omega)).1
        refine ⟨D', L', C', ?_, x2.cong (d2 i (by omega))⟩
        refine Cpl.cong ⟨x2.1.2.2, x2.2.1.2, x2.2.2.1.2⟩ (d2 i (by omega)) ?_
        rw [eq]
        exact x1.fr ⟨x2.2.1.2, x2.2.2.1.2⟩ (fun a ha ha' => (c2 i (by omega) a (by omega) (by omega)).2)
/-- what is told of a refusal: its number is kept -/
theorem m_throws {η : Mm} {k : Nat} (hk : k < 4) : f_X8_throwsAt KF η 139 (nI k) = some (if k = 0 then 0 else 1, sI η 139 7 (nI k)) := by
  rcases (show k = 0 ∨ k = 1 ∨ k = 2 ∨ k = 3 by omega) with rfl | rfl | rfl | rfl <;> rfl
/-- undo, when there is something to undo -/
theorem b_undo {n : Nat} {D L C : Nat} {μ η : Mm} (h : CR D L C μ η) (hs : SV (n + 1) μ η) : ∃ D' L' C' μ' η', f_X7_undo KF μ 0 = some (nI n, μ') ∧ f_X8_undo KF η 139 = some (nI n, η') ∧ CR D' L' C' μ' η' ∧ SV n μ' η' ∧
    ((∀ a, a ≠ 0 → ¬ (9 ≤ a ∧ a ≤ 34) → μ'.1 a = μ.1 a) ∧ μ'.2 = μ.2) ∧ (FrI (fun a => a = 139 ∨ a = 140) η η' ∧ (∀ j, j ≠ 3 → j ≠ 7 → η'.1 139 j = η.1 139 j) ∧ η'.1 139 7 = 0) := by
  obtain ⟨⟨s1, s2, s3⟩, p, hp, hq⟩ := hs
  obtain ⟨hR, hR2, hc, hw⟩ := h
  obtain ⟨x1, x2, x3⟩ := hp.1 n (by omega)
  obtain ⟨D', L', C', y1, y2⟩ := hq n (by omega)
  have hD' := y2.1
  have hL' := y2.2.1
  have hC' := y2.2.2.1
  let μ1 := sI μ 0 2 (nI n)
  have f1 : FrI (fun a => a = 0) μ μ1 := FrI.rfl.sI rfl
  have hR1 : RF μ1 := hR.fr f1
  obtain ⟨μ2, e2, f2, g2⟩ := c_takeOver hR1 sb9 x2 (Ne.symm x3)
  have f2' : ∀ a, ¬ (9 ≤ a ∧ a ≤ 34) → μ2.1 a = μ1.1 a := fun a ha => f2.2 a ha
  let η1 := sI (sI η 139 7 0) 139 3 (nI n)
  have g1 : FrI (fun a => a = 139) η η1 := ((FrI.rfl (S := fun a => a = 139)).sI rfl).sI rfl
  have hR21 : RF η1 := hR2.fr g1
  have p35 : 35 ≤ p n := by rcases x2 with h | h | h | h | h <;> omega
  obtain ⟨η2, e3, f3, g3⟩ := lp0 (fun m d ν => f_X8_undo_l33 KF 139 m ν (nI d)) 182 (by decide)
    (fun d ν => FrI (fun a => a = 140) η1 ν ∧ ∀ j, j < d → ν.1 140 j = past η n j) (fun ν => FrI (fun a => a = 140) η1 ν ∧ ∀ j, j < 182 → ν.1 140 j = past η n j)
    (by
      rintro m d ν hd ⟨p1, p2⟩
      have hRν := hR21.fr p1
      have z1 : ν.1 139 3 = nI n := by rw [p1.2 139 (by intro h; have h : 139 = 140 := h; omega)]; exact sI_at
      have z2 : ν.1 142 = η.1 142 := by
        rw [p1.2 142 (by intro h; have h : 142 = 140 := h; omega)]
        exact g1.2 142 (by intro h; have h : 142 = 139 := h; omega)
      refine Or.inr ⟨sI ν 140 d (past η n d), ?_, p1.sI rfl, fun j hj => ?_⟩
      · simp (disch := omega) only [f_X8_undo_l33, L182, leN, if_neg (Nat.not_le.mpr hd), r_m0 hRν, r_m2 hRν, bd_s, l1_s, z1, z2, nI_add, pk_mul, K140, K142, gd_n, ix_n, nI_succ d]
        rfl
      · by_cases e : j = d
        · rw [e, sI_at]
        · rw [sI_of e]
          exact p2 j (by omega))
    (by
      rintro m ν pq
      refine ⟨ν, ?_, pq⟩
      simp (disch := omega) only [f_X8_undo_l33, L182, leN, if_pos (Nat.le_refl 182)]) η1 ⟨FrI.rfl, fun j hj => absurd hj (by omega)⟩
  have z3 : η2.1 139 = η1.1 139 := f3.2 139 (by intro h; have h : 139 = 140 := h; omega)
  have z4 : η2.1 142 = η.1 142 := by
    rw [f3.2 142 (by intro h; have h : 142 = 140 := h; omega)]
    exact g1.2 142 (by intro h; have h : 142 = 139 := h; omega)
  have hcp : Cpl μ1 (p n) (past η n) D' L' C' := y1.fr ⟨hL'.2, hC'.2⟩ (fun a ha ha' => by
    show (sI μ 0 2 (nI n)).1 a = μ.1 a
    rw [sI_rw (by omega)])
  refine ⟨D', L', C', μ2, η2, ?_, ?_, ⟨hR1.fr f2, hR21.fr f3, (g2.cpl ⟨hD'.2.2, hL'.2, hC'.2⟩ hcp).cong ⟨hD'.2.2, hL'.2, hC'.2⟩ g3, y2.cong g3⟩, ?_, ⟨fun a ha ha' => ?_, ?_⟩, ?_, fun j hj hj' => ?_, ?_⟩
  · unfold f_X7_undo
    have t1 : (1 : Int32) ≤ μ.1 0 2 := by rw [s1]; exact nI_le (a := 1) (by omega) (by omega)
    have t2 : μ.1 0 2 - 1 = nI n := by rw [s1, L1, pk_sub (by omega)]; rfl
    have r4 : rf KF μ1 4 n 4 = some (p n) := rf_of (show μ1.2.1 4 n = _ from x1) (by rw [(sb_k x2).1])
    rw [if_pos t1]
    simp only [l1_s, t2]
    rw [show f_X7_refuse 0 = some () from rfl]
    have y0 : μ1.1 0 2 = nI n := sI_at
    have y3 : μ2.1 0 2 = nI n := by rw [f2' 0 (by omega)]; exact sI_at
    rw [show sI μ 0 2 (nI n) = μ1 from rfl]
    simp (disch := omega) only [bd_s, l1_s, r_03 hR1, r_01 hR1, y0, K4, gd_n, ix_n, r4, e2, y3]
  · unfold f_X8_undo
    rw [s2, if_neg (show ¬ nI (n + 1) = 0 from nI_ne0 (by omega) (by omega))]
    rw [l1_s, show f_X8_throwsAt KF η 139 0 = some (0, sI η 139 7 0) from rfl]
    simp only [l1_s, bd_s, if_true]
    have y0 : (sI η 139 7 0).1 139 3 - 1 = nI n := by rw [sI_of (by omega), s2, L1, pk_sub (by omega)]; rfl
    rw [y0, show f_X8_undo_l33 KF 139 FU (sI (sI η 139 7 0) 139 3 (nI n)) 0 = some η2 from e3]
    have y1 : η2.1 139 3 = nI n := by rw [z3]; exact sI_at
    simp only [bd_s, l1_s, y1]
  · refine ⟨⟨?_, ?_, by omega⟩, p, ⟨fun j hj => ?_, hp.2⟩, fun i hi => ?_⟩
    · rw [f2' 0 (by omega)]
      exact sI_at
    · rw [z3]
      exact sI_at
    · rw [f2.1]
      exact hp.1 j hj
    · obtain ⟨Di, Li, Ci, w1, w2⟩ := hq i (by omega)
      have ep : past η2 i = past η i := by
        funext j
        show η2.1 142 _ = η.1 142 _
        rw [z4]
      have pi35 : 35 ≤ p i := by
        have h9 := (hp.1 i (by omega)).2.2
        rcases (hp.1 i (by omega)).2.1 with h | h | h | h | h <;> omega
      refine ⟨Di, Li, Ci, ?_, by rw [ep]; exact w2⟩
      rw [ep]
      exact w1.fr ⟨w2.2.1.2, w2.2.2.1.2⟩ (fun a ha ha' => by rw [f2' a (by omega)]; exact sI_rw (by omega))
  · rw [f2' a ha']
    exact sI_rw ha
  · rw [f2.1]
    rfl
  · exact (g1.mono (fun a ha => Or.inl ha)).trans (f3.mono (fun a ha => Or.inr ha))
  · rw [z3, show η1.1 139 j = (sI η 139 7 0).1 139 j from sI_of hj, sI_of hj']
  · rw [z3, show η1.1 139 7 = (sI η 139 7 0).1 139 7 from sI_of (by omega), sI_at]
end PureL
