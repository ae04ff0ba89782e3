/-! PURE: what can be undone -/
section PureJ
theorem WF.cong {f g : Nat → Int32} {D L C : Nat} (e : ∀ j, j < 182 → g j = f j) (h : WF f D L C) : WF g D L C := by
  obtain ⟨⟨h1, h1', h1''⟩, ⟨h2, h2'⟩, ⟨h3, h3'⟩, ⟨b1, b2, b3, b4, b5, b6, b7⟩, h5, h6, h7, h8, h9, h10⟩ := h
  have sl : ∀ j, j < 10 → ∀ n, n ≤ 6 → sumL g j n = sumL f j n := by
    intro j hj n
    induction n with
    | zero => intro _; rfl
    | succ n ih =>
      intro hn
      show sumL g j n + g (86 + 10 * n + j) = sumL f j n + f (86 + 10 * n + j)
      rw [ih (by omega), e _ (by omega)]
  have er : ∀ k d, k < C → (rents g k d ↔ rents f k d) := by
    intro k d hk
    unfold rents
    rw [e _ (by omega), e _ (by omega)]
  refine ⟨⟨by rw [e _ (by omega)]; exact h1, h1', h1''⟩, ⟨by rw [e _ (by omega)]; exact h2, h2'⟩, ⟨by rw [e _ (by omega)]; exact h3, h3'⟩, ⟨by rw [e _ (by omega)]; exact b1, by rw [e _ (by omega)]; exact b2, by rw [e _ (by omega)]; exact b3, by rw [e _ (by omega)]; exact b4, by rw [e _ (by omega)]; exact b5, by rw [e _ (by omega)]; exact b6, by rw [e _ (by omega)]; exact b7⟩,
    fun d hd => by rw [e _ (by omega), e _ (by omega)]; exact h5 d hd, fun l hl => ?_, fun k hk => by rw [e _ (by omega), e _ (by omega)]; exact h7 k hk, fun j k d hj hk hd r r' => h8 j k d hj hk hd ((er j d hj).mp r) ((er k d hk).mp r'), by rw [sl 8 (by omega) L h2', e _ (by omega)]; exact h9, by rw [sl 9 (by omega) L h2', e _ (by omega)]; exact h10⟩
  obtain ⟨⟨w, w1, w2, w3, w4⟩, b⟩ := h6 l hl
  exact ⟨⟨w, w1, w2, by rw [e _ (by omega)]; exact w3, fun r hr => by rw [e _ (by omega)]; exact w4 r hr⟩, by rw [e _ (by omega)]; exact b⟩
theorem Cpl.cong {μ : Mm} {b D L C : Nat} {f g : Nat → Int32} (hD : D ≤ 24 ∧ L ≤ 6 ∧ C ≤ 6) (e : ∀ j, j < 182 → g j = f j) (h : Cpl μ b f D L C) : Cpl μ b g D L C := by
  obtain ⟨⟨h1, h1'⟩, h2, h3, ⟨h4, h4', h4''⟩, h5, h6, h7, h8⟩ := h
  refine ⟨⟨by rw [e _ (by omega)]; exact h1, by rw [e _ (by omega)]; exact h1'⟩, fun d hd => by rw [e _ (by omega), e _ (by omega), e _ (by omega)]; exact h2 d hd, fun j hj => by rw [e _ (by omega)]; exact h3 j hj, ⟨by rw [e _ (by omega)]; exact h4, by rw [e _ (by omega)]; exact h4', by rw [e _ (by omega)]; exact h4''⟩,
    fun l hl => ⟨by rw [e _ (by omega), e _ (by omega), e _ (by omega), e _ (by omega)]; exact (h5 l hl).1, fun r hr => by rw [e _ (by omega)]; exact (h5 l hl).2 r hr⟩, h6, fun k hk j hj => by rw [e _ (by omega)]; exact h7 k hk j hj, h8⟩
theorem RF.cg {μ μ' : Mm} (h : RF μ) (e : ∀ k j, k ≠ 4 → (k ≠ 1 ∨ j ≠ 4) → μ'.2.1 k j = μ.2.1 k j) : RF μ' := by
  obtain ⟨h1, ⟨h2, h2', h2''⟩, ⟨h3, h3', h3''⟩, ⟨h4, h4'⟩, h5, h5', h5'', h6, h6'⟩ := h
  refine ⟨fun b hb => ?_, ⟨by rw [e _ _ (by omega) (by omega)]; exact h2, by rw [e _ _ (by omega) (by omega)]; exact h2', by rw [e _ _ (by omega) (by omega)]; exact h2''⟩, ⟨by rw [e _ _ (by omega) (by omega)]; exact h3, by rw [e _ _ (by omega) (by omega)]; exact h3', by rw [e _ _ (by omega) (by omega)]; exact h3''⟩, ⟨by rw [e _ _ (by omega) (by omega)]; exact h4, by rw [e _ _ (by omega) (by omega)]; exact h4'⟩,
    by rw [e _ _ (by omega) (by omega)]; exact h5, by rw [e _ _ (by omega) (by omega)]; exact h5', by rw [e _ _ (by omega) (by omega)]; exact h5'', by rw [e _ _ (by omega) (by omega)]; exact h6, by rw [e _ _ (by omega) (by omega)]; exact h6'⟩
  have b9 : 9 ≤ b := by rcases hb with rfl | rfl | rfl | rfl | rfl <;> omega
  obtain ⟨p1, ⟨p2, p2', p2''⟩, p3, p4, p5, p6, p7, p8⟩ := h1 b hb
  refine ⟨by rw [e _ _ (by omega) (by omega)]; exact p1, ⟨by rw [e _ _ (by omega) (by omega)]; exact p2, by rw [e _ _ (by omega) (by omega)]; exact p2', by rw [e _ _ (by omega) (by omega)]; exact p2''⟩, by rw [e _ _ (by omega) (by omega)]; exact p3, by rw [e _ _ (by omega) (by omega)]; exact p4, by rw [e _ _ (by omega) (by omega)]; exact p5, by rw [e _ _ (by omega) (by omega)]; exact p6,
    fun i hi => ⟨by rw [e _ _ (by omega) (by omega)]; exact (p7 i hi).1, by rw [e _ _ (by omega) (by omega)]; exact (p7 i hi).2⟩, fun i hi => by rw [e _ _ (by omega) (by omega)]; exact p8 i hi⟩
def past (η : Mm) (i : Nat) : Nat → Int32 := fun j => η.1 142 (182 * i + j)
/-- the saved states: p says which one lies where -/
def PM (μ : Mm) (p : Nat → Nat) : Prop := (∀ j, j < 4 → μ.2.1 4 j = some (p j) ∧ SB (p j) ∧ p j ≠ 9) ∧ ∀ i j, i < 4 → j < 4 → p i = p j → i = j
def SV (n : Nat) (μ η : Mm) : Prop := (μ.1 0 2 = nI n ∧ η.1 139 3 = nI n ∧ n ≤ 4) ∧ ∃ p, PM μ p ∧ ∀ i, i < n → ∃ D L C, Cpl μ (p i) (past η i) D L C ∧ WF (past η i) D L C
theorem m_copy {η : Mm} (hR : RF η) {n : Nat} (hn : n < 4) (h3 : η.1 139 3 = nI n) : ∃ η', f_X8_saves_l59 KF 139 FU η 0 = some η' ∧ FrI (fun a => a = 142) η η' ∧ (∀ j, j < 182 → η'.1 142 (182 * n + j) = η.1 140 j) ∧ ∀ j, j < 182 * n → η'.1 142 j = η.1 142 j := by
  obtain ⟨v, e, q⟩ := lp0 (fun m d ν => f_X8_saves_l59 KF 139 m ν (nI d)) 182 (by decide)
    (fun d ν => FrI (fun a => a = 142) η ν ∧ (∀ j, j < d → ν.1 142 (182 * n + j) = η.1 140 j) ∧ ∀ j, j < 182 * n → ν.1 142 j = η.1 142 j)
    (fun ν => FrI (fun a => a = 142) η ν ∧ (∀ j, j < 182 → ν.1 142 (182 * n + j) = η.1 140 j) ∧ ∀ j, j < 182 * n → ν.1 142 j = η.1 142 j)
    (by
      rintro m d ν hd ⟨p1, p2, p3⟩
      have hRν := hR.fr p1
      have e0 : ν.1 140 = η.1 140 := p1.2 140 (by intro h; have h : 140 = 142 := h; omega)
      have e3 : ν.1 139 3 = nI n := by rw [p1.2 139 (by intro h; have h : 139 = 142 := h; omega)]; exact h3
      refine Or.inr ⟨sI ν 142 (182 * n + d) (η.1 140 d), ?_, p1.sI rfl, fun j hj => ?_, fun j hj => ?_⟩
      · simp (disch := omega) only [f_X8_saves_l59, L182, leN, if_neg (Nat.not_le.mpr hd), r_m2 hRν, r_m0 hRν, bd_s, l1_s, K140, K142, gd_n, ix_n, e0, e3, nI_add, pk_mul, nI_succ d]
      · by_cases e1 : j = d
        · rw [e1, sI_at]
        · rw [sI_of (by omega)]
          exact p2 j (by omega)
      · rw [sI_of (by omega)]
        exact p3 j hj)
    (by
      rintro m ν p
      refine ⟨ν, ?_, p⟩
      simp (disch := omega) only [f_X8_saves_l59, L182, leN, if_pos (Nat.le_refl 182)]) η ⟨FrI.rfl, fun j hj => absurd hj (by omega), fun _ _ => rfl⟩
  exact ⟨v, e, q⟩
theorem m_shift {η : Mm} (hR : RF η) : ∃ η', f_X8_saves_l18 KF 139 FU η 0 = some η' ∧ FrI (fun a => a = 142) η η' ∧ ∀ j, j < 546 → η'.1 142 j = η.1 142 (j + 182) := by
  obtain ⟨v, e, q1, q2, -⟩ := lp0 (fun m d ν => f_X8_saves_l18 KF 139 m ν (nI d)) 546 (by decide)
    (fun d ν => FrI (fun a => a = 142) η ν ∧ (∀ j, j < d → ν.1 142 j = η.1 142 (j + 182)) ∧ ∀ j, d ≤ j → ν.1 142 j = η.1 142 j)
    (fun ν => FrI (fun a => a = 142) η ν ∧ (∀ j, j < 546 → ν.1 142 j = η.1 142 (j + 182)) ∧ True)
    (by
      rintro m d ν hd ⟨p1, p2, p3⟩
      have hRν := hR.fr p1
      refine Or.inr ⟨sI ν 142 d (η.1 142 (d + 182)), ?_, p1.sI rfl, fun j hj => ?_, fun j hj => ?_⟩
      · simp (disch := omega) only [f_X8_saves_l18, show (546 : Int32) = nI 546 by decide +kernel, L182, leN, if_neg (Nat.not_le.mpr hd), r_m2 hRν, bd_s, l1_s, K142, gd_n, ix_n, nI_add, p3, nI_succ d]
      · by_cases e1 : j = d
        · rw [e1, sI_at]
        · rw [sI_of e1]
          exact p2 j (by omega)
      · rw [sI_of (by omega)]
        exact p3 j (by omega))
    (by
      rintro m ν ⟨p1, p2, -⟩
      refine ⟨ν, ?_, p1, p2, trivial⟩
      simp (disch := omega) only [f_X8_saves_l18, show (546 : Int32) = nI 546 by decide +kernel, leN, if_pos (Nat.le_refl 546)]) η ⟨FrI.rfl, fun j hj => absurd hj (by omega), fun _ _ => rfl⟩
  exact ⟨v, e, q1, q2⟩
/-- what saving may change -/
def FS (μ μ' : Mm) : Prop := (∀ a, (1 ≤ a ∧ a ≤ 3 ∨ 5 ≤ a ∧ a ≤ 34 ∨ 139 ≤ a) → μ'.1 a = μ.1 a) ∧ (∀ a, a ≠ 4 → μ'.2.1 a = μ.2.1 a) ∧ μ'.2.2 = μ.2.2
def FP (η η' : Mm) : Prop := FrI (fun a => a = 139 ∨ a = 142) η η' ∧ ∀ j, j ≠ 3 → η'.1 139 j = η.1 139 j
theorem m_saves {η : Mm} (hR : RF η) {n : Nat} (hn : n ≤ 4) (h3 : η.1 139 3 = nI n) (h4 : η.1 139 4 = 0) : ∃ η', f_X8_saves KF η 139 = some η' ∧ FP η η' ∧
    ((n < 4 ∧ η'.1 139 3 = nI (n + 1) ∧ (∀ i, i < n → ∀ j, j < 182 → past η' i j = past η i j) ∧ ∀ j, j < 182 → past η' n j = η.1 140 j) ∨
     (n = 4 ∧ η'.1 139 3 = nI 4 ∧ (∀ i, i < 3 → ∀ j, j < 182 → past η' i j = past η (i + 1) j) ∧ ∀ j, j < 182 → past η' 3 j = η.1 140 j)) := by
  by_cases e4 : n = 4
  · subst e4
    obtain ⟨η1, e1, f1, g1⟩ := m_shift hR
    have hR1 := hR.fr f1
    have x1 : η1.1 139 = η.1 139 := f1.2 139 (by intro h; have h : 139 = 142 := h; omega)
    have x2 : η1.1 140 = η.1 140 := f1.2 140 (by intro h; have h : 140 = 142 := h; omega)
    let η2 := sI η1 139 3 (nI 3)
    have f2 : FrI (fun a => a = 139) η1 η2 := FrI.rfl.sI rfl
    have hR2 : RF η2 := hR1.fr f2
    obtain ⟨η3, e3, f3, g3, k3⟩ := m_copy hR2 (n := 3) (by omega) (show η2.1 139 3 = nI 3 from sI_at)
    have y1 : η3.1 139 = η2.1 139 := f3.2 139 (by intro h; have h : 139 = 142 := h; omega)
    have y2 : η2.1 142 = η1.1 142 := f2.2 142 (by intro h; have h : 142 = 139 := h; omega)
    have y3 : η2.1 140 = η1.1 140 := f2.2 140 (by intro h; have h : 140 = 139 := h; omega)
    refine ⟨sI η3 139 3 (nI 4), ?_, ⟨?_, fun j hj => ?_⟩, Or.inr ⟨rfl, sI_at, fun i hi j hj => ?_, fun j hj => ?_⟩⟩
    · unfold f_X8_saves
      have z1 : η1.1 139 3 - 1 = nI 3 := by rw [x1, h3]; rfl
      have z2 : η3.1 139 3 + 1 = nI 4 := by rw [y1, show η2.1 139 3 = nI 3 from sI_at]; rfl
      rw [if_pos h4, h3, if_pos (show nI 4 = 4 from rfl), e1]
      simp only [bd_s, l1_s, z1]
      rw [show f_X8_saves_l59 KF 139 FU (sI η1 139 3 (nI 3)) 0 = some η3 from e3]
      simp only [bd_s, l1_s, z2]
    · exact (((f1.mono (fun a ha => Or.inr ha)).trans (f2.mono (fun a ha => Or.inl ha))).trans (f3.mono (fun a ha => Or.inr ha))).sI (Or.inl rfl)
    · rw [sI_of hj, y1, show η2.1 139 j = η1.1 139 j from sI_of hj, x1]
    · show (sI η3 139 3 (nI 4)).1 142 (182 * i + j) = η.1 142 (182 * (i + 1) + j)
      rw [sI_no (by omega), k3 _ (by omega), y2, g1 _ (by omega), show 182 * i + j + 182 = 182 * (i + 1) + j by omega]
    · show (sI η3 139 3 (nI 4)).1 142 (182 * 3 + j) = _
      rw [sI_no (by omega), g3 j hj, y3, x2]
  · obtain ⟨η1, e1, f1, g1, k1⟩ := m_copy hR (n := n) (by omega) h3
    have x1 : η1.1 139 = η.1 139 := f1.2 139 (by intro h; have h : 139 = 142 := h; omega)
    refine ⟨sI η1 139 3 (nI (n + 1)), ?_, ⟨?_, fun j hj => ?_⟩, Or.inl ⟨by omega, sI_at, fun i hi j hj => ?_, fun j hj => ?_⟩⟩
    · unfold f_X8_saves
      have z2 : η1.1 139 3 + 1 = nI (n + 1) := by rw [x1, h3, nI_1]
      rw [if_pos h4, h3, if_neg (show ¬ nI n = 4 by rw [L4, eqN (by omega) (by omega)]; exact e4), e1]
      simp only [bd_s, l1_s, z2]
    · exact (f1.mono (fun a ha => Or.inr ha)).sI (Or.inl rfl)
    · rw [sI_of hj, x1]
    · show (sI η1 139 3 (nI (n + 1))).1 142 (182 * i + j) = η.1 142 (182 * i + j)
      rw [sI_no (by omega), k1 _ (by omega)]
    · show (sI η1 139 3 (nI (n + 1))).1 142 (182 * n + j) = _
      rw [sI_no (by omega), g1 j hj]
end PureJ
