/-! PURE: a state takes over another one -/
section PureI
theorem sb_k {b : Nat} (h : SB b) : KF b = (4, 0) ∧ KF (b + 1) = (2, 0) ∧ (KF (b + 2) = (8, 24) ∧ KF (b + 3) = (8, 24) ∧ KF (b + 4) = (8, 24)) ∧ KF (b + 5) = (8, 7) ∧ KF (b + 6) = (10, 6) ∧ KF (b + 7) = (9, 6) ∧
    (∀ i, i < 6 → KF (b + 8 + 2 * i) = (3, 0) ∧ KF (b + 9 + 2 * i) = (8, 6)) ∧ ∀ i, i < 6 → KF (b + 20 + i) = (1, 0) := by
  rcases h with rfl | rfl | rfl | rfl | rfl <;> decide +kernel
theorem s_0 {μ : Mm} {b : Nat} (hR : RF μ) (h : SB b) : rf KF μ b 0 2 = some (b + 1) := rf_of (hR.1 b h).1 (by rw [(sb_k h).2.1])
theorem s_h2 {μ : Mm} {b : Nat} (hR : RF μ) (h : SB b) : rf KF μ (b + 1) 2 8 = some (b + 2) := rf_of (hR.1 b h).2.1.1 (by rw [(sb_k h).2.2.1.1])
theorem s_h3 {μ : Mm} {b : Nat} (hR : RF μ) (h : SB b) : rf KF μ (b + 1) 3 8 = some (b + 3) := rf_of (hR.1 b h).2.1.2.1 (by rw [(sb_k h).2.2.1.2.1])
theorem s_h4 {μ : Mm} {b : Nat} (hR : RF μ) (h : SB b) : rf KF μ (b + 1) 4 8 = some (b + 4) := rf_of (hR.1 b h).2.1.2.2 (by rw [(sb_k h).2.2.1.2.2])
theorem s_2 {μ : Mm} {b : Nat} (hR : RF μ) (h : SB b) : rf KF μ b 2 8 = some (b + 5) := rf_of (hR.1 b h).2.2.2.1 (by rw [(sb_k h).2.2.2.1])
theorem s_3 {μ : Mm} {b : Nat} (hR : RF μ) (h : SB b) : rf KF μ b 3 10 = some (b + 6) := rf_of (hR.1 b h).2.2.2.2.1 (by rw [(sb_k h).2.2.2.2.1])
theorem s_5 {μ : Mm} {b : Nat} (hR : RF μ) (h : SB b) : rf KF μ b 5 9 = some (b + 7) := rf_of (hR.1 b h).2.2.2.2.2.1 (by rw [(sb_k h).2.2.2.2.2.1])
theorem s_lab {μ : Mm} {b i : Nat} (hR : RF μ) (h : SB b) (hi : i < 6) : rf KF μ (b + 6) i 3 = some (b + 8 + 2 * i) := rf_of ((hR.1 b h).2.2.2.2.2.2.1 i hi).1 (by rw [((sb_k h).2.2.2.2.2.2.1 i hi).1])
theorem s_row {μ : Mm} {b i : Nat} (hR : RF μ) (h : SB b) (hi : i < 6) : rf KF μ (b + 8 + 2 * i) 4 8 = some (b + 9 + 2 * i) := rf_of ((hR.1 b h).2.2.2.2.2.2.1 i hi).2 (by rw [((sb_k h).2.2.2.2.2.2.1 i hi).2])
theorem s_cus {μ : Mm} {b i : Nat} (hR : RF μ) (h : SB b) (hi : i < 6) : rf KF μ (b + 7) i 1 = some (b + 20 + i) := rf_of ((hR.1 b h).2.2.2.2.2.2.2 i hi) (by rw [(sb_k h).2.2.2.2.2.2.2 i hi])
theorem sb_ne {b b' : Nat} (h : SB b) (h' : SB b') (n : b ≠ b') : b + 26 ≤ b' ∨ b' + 26 ≤ b := by
  rcases h with rfl | rfl | rfl | rfl | rfl <;> rcases h' with rfl | rfl | rfl | rfl | rfl <;> omega
theorem ok0 {n m : Nat} (h : n ≤ m) (hm : m < 1000) : okc (nI 0) (nI 0) (nI n) m m := by
  refine ⟨nI_pos (by omega), nI_pos (by omega), nI_pos (by omega), ?_, ?_⟩ <;> rw [ix_n (by omega), ix_n (by omega)] <;> omega
theorem cpy0 {f g : Nat → Int32} {n j : Nat} (h : j < n) : va_cpy f g 0 0 n j = f j := by
  unfold va_cpy
  rw [if_pos (by omega)]
  congr 1
  omega
theorem tk_head {μ : Mm} {b b' : Nat} (hR : RF μ) (h : SB b) (h' : SB b') (n : b ≠ b') : ∃ μ', f_X3_takeOver KF μ (b + 1) (b' + 1) = some μ' ∧ FrI (fun a => b + 1 ≤ a ∧ a ≤ b + 4) μ μ' ∧
    (μ'.1 (b + 1) 0 = μ.1 (b' + 1) 0 ∧ μ'.1 (b + 1) 1 = μ.1 (b' + 1) 1) ∧ ∀ j, j < 24 → μ'.1 (b + 2) j = μ.1 (b' + 2) j ∧ μ'.1 (b + 3) j = μ.1 (b' + 3) j ∧ μ'.1 (b + 4) j = μ.1 (b' + 4) j := by
  have hd := sb_ne h h' n
  obtain ⟨-, -, ⟨k2, k3, k4⟩, -⟩ := sb_k h
  obtain ⟨-, -, ⟨k2', k3', k4'⟩, -⟩ := sb_k h'
  refine ⟨sIr (sIr (sIr (sI (sI μ (b + 1) 0 (μ.1 (b' + 1) 0)) (b + 1) 1 (μ.1 (b' + 1) 1)) (b + 2) (va_cpy (μ.1 (b' + 2)) (μ.1 (b + 2)) 0 0 24)) (b + 3) (va_cpy (μ.1 (b' + 3)) (μ.1 (b + 3)) 0 0 24)) (b + 4) (va_cpy (μ.1 (b' + 4)) (μ.1 (b + 4)) 0 0 24), ?_, ?_, ⟨?_, ?_⟩, fun j hj => ⟨?_, ?_, ?_⟩⟩
  · unfold f_X3_takeOver
    have o24 : okc 0 0 24 24 24 := ok0 (n := 24) (m := 24) (Nat.le_refl 24) (by omega)
    simp (disch := omega) only [l1_s, rf_sI, rf_sIr, s_h2 hR h, s_h2 hR h', s_h3 hR h, s_h3 hR h', s_h4 hR h, s_h4 hR h', bd_s, k2, k3, k4, k2', k3', k4', gd_t o24, sI_no, sI_rw, sIr_no, show ix 0 = 0 from rfl, show ix 24 = 24 from rfl]
  · refine ((((FrI.rfl.sI ?_).sI ?_).sIr ?_).sIr ?_).sIr ?_ <;> constructor <;> omega
  · rw [sIr_no (by omega), sIr_no (by omega), sIr_no (by omega), sI_of (by omega), sI_at]
  · rw [sIr_no (by omega), sIr_no (by omega), sIr_no (by omega), sI_at]
  · rw [sIr_no (by omega), sIr_no (by omega), sIr_at, cpy0 hj]
  · rw [sIr_no (by omega), sIr_at, cpy0 hj]
  · rw [sIr_at, cpy0 hj]
theorem tk_label {μ : Mm} {b b' i : Nat} (hR : RF μ) (h : SB b) (h' : SB b') (n : b ≠ b') (hi : i < 6) : ∃ μ', f_X4_takeOver KF μ (b + 8 + 2 * i) (b' + 8 + 2 * i) = some μ' ∧ FrI (fun a => b + 8 + 2 * i ≤ a ∧ a ≤ b + 9 + 2 * i) μ μ' ∧
    (∀ j, j < 4 → μ'.1 (b + 8 + 2 * i) j = μ.1 (b' + 8 + 2 * i) j) ∧ ∀ j, j < 6 → μ'.1 (b + 9 + 2 * i) j = μ.1 (b' + 9 + 2 * i) j := by
  have hd := sb_ne h h' n
  have k := ((sb_k h).2.2.2.2.2.2.1 i hi).2
  have k' := ((sb_k h').2.2.2.2.2.2.1 i hi).2
  refine ⟨sIr (sI (sI (sI (sI μ (b + 8 + 2 * i) 0 (μ.1 (b' + 8 + 2 * i) 0)) (b + 8 + 2 * i) 1 (μ.1 (b' + 8 + 2 * i) 1)) (b + 8 + 2 * i) 2 (μ.1 (b' + 8 + 2 * i) 2)) (b + 8 + 2 * i) 3 (μ.1 (b' + 8 + 2 * i) 3)) (b + 9 + 2 * i) (va_cpy (μ.1 (b' + 9 + 2 * i)) (μ.1 (b + 9 + 2 * i)) 0 0 6), ?_, ?_, fun j hj => ?_, fun j hj => ?_⟩
  · unfold f_X4_takeOver
    have o6 : okc 0 0 6 6 6 := ok0 (n := 6) (m := 6) (Nat.le_refl 6) (by omega)
    simp (disch := omega) only [l1_s, rf_sI, rf_sIr, s_row hR h hi, s_row hR h' hi, bd_s, k, k', gd_t o6, sI_no, sI_rw, sIr_no, show ix 0 = 0 from rfl, show ix 6 = 6 from rfl]
  · refine ((((FrI.rfl.sI ?_).sI ?_).sI ?_).sI ?_).sIr ?_ <;> constructor <;> omega
  · rw [sIr_no (by omega)]
    rcases (show j = 0 ∨ j = 1 ∨ j = 2 ∨ j = 3 by omega) with rfl | rfl | rfl | rfl <;> simp (disch := omega) only [sI_at, sI_of]
  · rw [sIr_at, cpy0 hj]
theorem tk_customer {μ : Mm} {b b' i : Nat} (h : SB b) (h' : SB b') (n : b ≠ b') (hi : i < 6) : ∃ μ', f_X2_takeOver KF μ (b + 20 + i) (b' + 20 + i) = some μ' ∧ FrI (fun a => a = b + 20 + i) μ μ' ∧ ∀ j, j < 6 → μ'.1 (b + 20 + i) j = μ.1 (b' + 20 + i) j := by
  have hd := sb_ne h h' n
  refine ⟨sI (sI (sI (sI (sI (sI μ (b + 20 + i) 0 (μ.1 (b' + 20 + i) 0)) (b + 20 + i) 1 (μ.1 (b' + 20 + i) 1)) (b + 20 + i) 2 (μ.1 (b' + 20 + i) 2)) (b + 20 + i) 3 (μ.1 (b' + 20 + i) 3)) (b + 20 + i) 4 (μ.1 (b' + 20 + i) 4)) (b + 20 + i) 5 (μ.1 (b' + 20 + i) 5), ?_, ?_, fun j hj => ?_⟩
  · unfold f_X2_takeOver
    simp (disch := omega) only [l1_s, sI_no]
  · exact ((((((FrI.rfl (S := fun a => a = b + 20 + i)).sI rfl).sI rfl).sI rfl).sI rfl).sI rfl).sI rfl
  · rcases j6 hj with rfl | rfl | rfl | rfl | rfl | rfl <;> simp (disch := omega) only [sI_at, sI_of]
/-- the contents of a state are those of another one -/
def Cop (μ' : Mm) (b : Nat) (μ : Mm) (b' : Nat) : Prop := (μ'.1 (b + 1) 0 = μ.1 (b' + 1) 0 ∧ μ'.1 (b + 1) 1 = μ.1 (b' + 1) 1) ∧ (∀ j, j < 24 → μ'.1 (b + 2) j = μ.1 (b' + 2) j ∧ μ'.1 (b + 3) j = μ.1 (b' + 3) j ∧ μ'.1 (b + 4) j = μ.1 (b' + 4) j) ∧
  (∀ j, j < 7 → μ'.1 (b + 5) j = μ.1 (b' + 5) j) ∧ (μ'.1 b 4 = μ.1 b' 4 ∧ μ'.1 b 6 = μ.1 b' 6 ∧ μ'.1 b 7 = μ.1 b' 7) ∧
  (∀ l, l < 6 → (∀ j, j < 4 → μ'.1 (b + 8 + 2 * l) j = μ.1 (b' + 8 + 2 * l) j) ∧ ∀ j, j < 6 → μ'.1 (b + 9 + 2 * l) j = μ.1 (b' + 9 + 2 * l) j) ∧ ∀ k, k < 6 → ∀ j, j < 6 → μ'.1 (b + 20 + k) j = μ.1 (b' + 20 + k) j
theorem Cop.cpl {μ μ' : Mm} {b b' D L C : Nat} {f : Nat → Int32} (hD : D ≤ 24 ∧ L ≤ 6 ∧ C ≤ 6) (c : Cop μ' b μ b') (h : Cpl μ b' f D L C) : Cpl μ' b f D L C := by
  obtain ⟨⟨c1, c2⟩, c3, c4, ⟨c5, c6, c7⟩, c8, c9⟩ := c
  obtain ⟨⟨h1, h1'⟩, h2, h3, ⟨h4, h4', h4''⟩, h5, h6, h7, h8⟩ := h
  refine ⟨⟨c1.trans h1, c2.trans h1'⟩, fun d hd => ?_, fun j hj => (c4 j hj).trans (h3 j hj), ⟨c5.trans h4, c6.trans h4', c7.trans h4''⟩, fun l hl => ?_, fun l hl hl' => ?_, fun k hk j hj => (c9 k (by omega) j hj).trans (h7 k hk j hj), fun k hk hk' => ?_⟩
  · obtain ⟨x1, x2, x3⟩ := c3 d (by omega)
    obtain ⟨y1, y2, y3⟩ := h2 d hd
    exact ⟨x1.trans y1, x2.trans y2, x3.trans y3⟩
  · obtain ⟨x1, x2⟩ := c8 l (by omega)
    obtain ⟨⟨y1, y2, y3, y4⟩, y5⟩ := h5 l hl
    exact ⟨⟨(x1 0 (by omega)).trans y1, (x1 1 (by omega)).trans y2, (x1 2 (by omega)).trans y3, (x1 3 (by omega)).trans y4⟩, fun r hr => (x2 r hr).trans (y5 r hr)⟩
  · obtain ⟨x1, x2⟩ := c8 l (by omega)
    obtain ⟨⟨y3, y4⟩, y5⟩ := h6 l hl hl'
    exact ⟨⟨(x1 2 (by omega)).trans y3, (x1 3 (by omega)).trans y4⟩, fun r hr => (x2 r hr).trans (y5 r hr)⟩
  · obtain ⟨y1, y2, y3⟩ := h8 k hk hk'
    exact ⟨(c9 k hk' 0 (by omega)).trans y1, (c9 k hk' 1 (by omega)).trans y2, fun j hj hj' => (c9 k hk' j hj').trans (y3 j hj hj')⟩
theorem c_takeOver {μ : Mm} {b b' : Nat} (hR : RF μ) (h : SB b) (h' : SB b') (n : b ≠ b') : ∃ μ', f_X5_takeOver KF μ b b' = some μ' ∧ FrI (fun a => b ≤ a ∧ a ≤ b + 25) μ μ' ∧ Cop μ' b μ b' := by
  have hd := sb_ne h h' n
  obtain ⟨-, -, -, k5, k6, k7, -⟩ := sb_k h
  obtain ⟨-, -, -, k5', k6', k7', -⟩ := sb_k h'
  obtain ⟨μ1, e1, f1, g1, g2⟩ := tk_head hR h h' n
  have hR1 := hR.fr f1
  have o7 : okc 0 0 7 7 7 := ok0 (n := 7) (m := 7) (Nat.le_refl 7) (by omega)
  have q1 : ∀ a, ¬ (b + 1 ≤ a ∧ a ≤ b + 4) → μ1.1 a = μ.1 a := fun a ha => f1.2 a ha
  let μ2 := sIr μ1 (b + 5) (va_cpy (μ1.1 (b' + 5)) (μ1.1 (b + 5)) (ix 0) (ix 0) (ix 7))
  have f2 : FrI (fun a => a = b + 5) μ1 μ2 := FrI.rfl.sIr rfl
  have hR2 : RF μ2 := hR1.fr f2
  have q2 : ∀ a, a ≠ b + 5 → μ2.1 a = μ1.1 a := fun a ha => f2.2 a ha
  obtain ⟨μ3, e3, f3, g3⟩ := lp0 (fun m i ν => f_X5_takeOver_l28 KF b b' m ν (nI i)) 6 (by decide)
    (fun i ν => FrI (fun a => b + 8 ≤ a ∧ a ≤ b + 19) μ2 ν ∧ ∀ l, l < i → (∀ j, j < 4 → ν.1 (b + 8 + 2 * l) j = μ2.1 (b' + 8 + 2 * l) j) ∧ ∀ j, j < 6 → ν.1 (b + 9 + 2 * l) j = μ2.1 (b' + 9 + 2 * l) j)
    (fun ν => FrI (fun a => b + 8 ≤ a ∧ a ≤ b + 19) μ2 ν ∧ ∀ l, l < 6 → (∀ j, j < 4 → ν.1 (b + 8 + 2 * l) j = μ2.1 (b' + 8 + 2 * l) j) ∧ ∀ j, j < 6 → ν.1 (b + 9 + 2 * l) j = μ2.1 (b' + 9 + 2 * l) j)
    (by
      rintro m i ν hi ⟨p1, p2⟩
      have hRν := hR2.fr p1
      obtain ⟨ν', y1, y2, y3, y4⟩ := tk_label hRν h h' n hi
      have qν : ∀ a, ¬ (b + 8 ≤ a ∧ a ≤ b + 19) → ν.1 a = μ2.1 a := fun a ha => p1.2 a ha
      have qν' : ∀ a, ¬ (b + 8 + 2 * i ≤ a ∧ a ≤ b + 9 + 2 * i) → ν'.1 a = ν.1 a := fun a ha => y2.2 a ha
      refine Or.inr ⟨ν', ?_, p1.trans (y2.mono (fun a ha => ⟨by have := ha.1; omega, by have := ha.2; omega⟩)), fun l hl => ?_⟩
      · simp (disch := omega) only [f_X5_takeOver_l28, L6, leN, if_neg (Nat.not_le.mpr hi), s_3 hRν h, s_3 hRν h', bd_s, l1_s, k6, k6', gd_n, ix_n, s_lab hRν h hi, s_lab hRν h' hi, y1, nI_succ i]
      · by_cases e : l = i
        · subst e
          exact ⟨fun j hj => by rw [y3 j hj, qν _ (by omega)], fun j hj => by rw [y4 j hj, qν _ (by omega)]⟩
        · obtain ⟨z1, z2⟩ := p2 l (by omega)
          exact ⟨fun j hj => by rw [qν' _ (by omega)]; exact z1 j hj, fun j hj => by rw [qν' _ (by omega)]; exact z2 j hj⟩)
    (by
      rintro m ν p
      refine ⟨ν, ?_, p⟩
      simp (disch := omega) only [f_X5_takeOver_l28, L6, leN, if_pos (Nat.le_refl 6)]) μ2 ⟨FrI.rfl, fun l hl => absurd hl (by omega)⟩
  have hR3 := hR2.fr f3
  have q3 : ∀ a, ¬ (b + 8 ≤ a ∧ a ≤ b + 19) → μ3.1 a = μ2.1 a := fun a ha => f3.2 a ha
  let μ4 := sI μ3 b 4 (μ3.1 b' 4)
  have f4 : FrI (fun a => a = b) μ3 μ4 := FrI.rfl.sI rfl
  have hR4 : RF μ4 := hR3.fr f4
  have q4 : ∀ a, a ≠ b → μ4.1 a = μ3.1 a := fun a ha => f4.2 a ha
  obtain ⟨μ5, e5, f5, g5⟩ := lp0 (fun m i ν => f_X5_takeOver_l65 KF b b' m ν (nI i)) 6 (by decide)
    (fun i ν => FrI (fun a => b + 20 ≤ a ∧ a ≤ b + 25) μ4 ν ∧ ∀ l, l < i → ∀ j, j < 6 → ν.1 (b + 20 + l) j = μ4.1 (b' + 20 + l) j)
    (fun ν => FrI (fun a => b + 20 ≤ a ∧ a ≤ b + 25) μ4 ν ∧ ∀ l, l < 6 → ∀ j, j < 6 → ν.1 (b + 20 + l) j = μ4.1 (b' + 20 + l) j)
    (by
      rintro m i ν hi ⟨p1, p2⟩
      have hRν := hR4.fr p1
      obtain ⟨ν', y1, y2, y3⟩ := tk_customer (μ := ν) h h' n hi
      have qν : ∀ a, ¬ (b + 20 ≤ a ∧ a ≤ b + 25) → ν.1 a = μ4.1 a := fun a ha => p1.2 a ha
      have qν' : ∀ a, a ≠ b + 20 + i → ν'.1 a = ν.1 a := fun a ha => y2.2 a ha
      refine Or.inr ⟨ν', ?_, p1.trans (y2.mono (fun a ha => by have ha : a = b + 20 + i := ha; exact ⟨by omega, by omega⟩)), fun l hl j hj => ?_⟩
      · simp (disch := omega) only [f_X5_takeOver_l65, L6, leN, if_neg (Nat.not_le.mpr hi), s_5 hRν h, s_5 hRν h', bd_s, l1_s, k7, k7', gd_n, ix_n, s_cus hRν h hi, s_cus hRν h' hi, y1, nI_succ i]
      · by_cases e : l = i
        · subst e
          rw [y3 j hj, qν _ (by omega)]
        · rw [qν' _ (by omega)]
          exact p2 l (by omega) j hj)
    (by
      rintro m ν p
      refine ⟨ν, ?_, p⟩
      simp (disch := omega) only [f_X5_takeOver_l65, L6, leN, if_pos (Nat.le_refl 6)]) μ4 ⟨FrI.rfl, fun l hl => absurd hl (by omega)⟩
  have q5 : ∀ a, ¬ (b + 20 ≤ a ∧ a ≤ b + 25) → μ5.1 a = μ4.1 a := fun a ha => f5.2 a ha
  refine ⟨sI (sI μ5 b 6 (μ5.1 b' 6)) b 7 (μ5.1 b' 7), ?_, ?_, ?_⟩
  · unfold f_X5_takeOver
    have e3' : f_X5_takeOver_l28 KF b b' FU μ2 0 = some μ3 := e3
    have e5' : f_X5_takeOver_l65 KF b b' FU (sI μ3 b 4 (μ3.1 b' 4)) 0 = some μ5 := e5
    simp (disch := omega) only [s_0 hR h, s_0 hR h', bd_s, e1, s_2 hR1 h, s_2 hR1 h', k5, k5', gd_t o7, l1_s]
    rw [show f_X5_takeOver_l28 KF b b' FU (sIr μ1 (b + 5) (va_cpy (μ1.1 (b' + 5)) (μ1.1 (b + 5)) (ix 0) (ix 0) (ix 7))) 0 = some μ3 from e3']
    simp (disch := omega) only [bd_s, l1_s, e5', sI_no]
  · have w : ∀ {ν ν' : Mm} {lo hi : Nat}, FrI (fun a => b + lo ≤ a ∧ a ≤ b + hi) ν ν' → hi ≤ 25 → FrI (fun a => b ≤ a ∧ a ≤ b + 25) ν ν' := fun f hh => f.mono (fun a ha => ⟨by have := ha.1; omega, by have := ha.2; omega⟩)
    have w1 := (w f1 (by omega)).trans (f2.mono (fun a ha => by have ha : a = b + 5 := ha; exact ⟨by omega, by omega⟩))
    have w2 := (w1.trans (w f3 (by omega))).trans (f4.mono (fun a ha => by have ha : a = b := ha; exact ⟨by omega, by omega⟩))
    exact ((w2.trans (w f5 (by omega))).sI ⟨by omega, by omega⟩).sI ⟨by omega, by omega⟩
  · have z : ∀ a, a ≠ b → (sI (sI μ5 b 6 (μ5.1 b' 6)) b 7 (μ5.1 b' 7)).1 a = μ5.1 a := fun a ha => by rw [sI_rw ha, sI_rw ha]
    have s5 : ∀ a, (b' ≤ a ∧ a ≤ b' + 25) → μ5.1 a = μ.1 a := fun a ha => by
      rw [q5 a (by omega), q4 a (by omega), q3 a (by omega), q2 a (by omega), q1 a (by omega)]
    refine ⟨⟨?_, ?_⟩, fun j hj => ?_, fun j hj => ?_, ⟨?_, ?_, ?_⟩, fun l hl => ⟨fun j hj => ?_, fun j hj => ?_⟩, fun k hk j hj => ?_⟩
    · rw [z _ (by omega), q5 _ (by omega), q4 _ (by omega), q3 _ (by omega), q2 _ (by omega)]
      exact g1.1
    · rw [z _ (by omega), q5 _ (by omega), q4 _ (by omega), q3 _ (by omega), q2 _ (by omega)]
      exact g1.2
    · rw [z (b + 2) (by omega), z (b + 3) (by omega), z (b + 4) (by omega), q5 (b + 2) (by omega), q5 (b + 3) (by omega), q5 (b + 4) (by omega), q4 (b + 2) (by omega), q4 (b + 3) (by omega), q4 (b + 4) (by omega), q3 (b + 2) (by omega), q3 (b + 3) (by omega), q3 (b + 4) (by omega), q2 (b + 2) (by omega), q2 (b + 3) (by omega), q2 (b + 4) (by omega)]
      exact g2 j hj
    · rw [z _ (by omega), q5 _ (by omega), q4 _ (by omega), q3 _ (by omega), show μ2.1 (b + 5) = va_cpy (μ1.1 (b' + 5)) (μ1.1 (b + 5)) 0 0 7 from sIr_at, cpy0 hj, q1 _ (by omega)]
    · rw [sI_of (by omega), sI_of (by omega), q5 _ (by omega), show μ4.1 b 4 = μ3.1 b' 4 from sI_at, q3 _ (by omega), q2 _ (by omega), q1 _ (by omega)]
    · rw [sI_of (by omega), sI_at, s5 _ (by omega)]
    · rw [sI_at, s5 _ (by omega)]
    · rw [z _ (by omega), q5 _ (by omega), q4 _ (by omega), (g3 l hl).1 j hj, q2 _ (by omega), q1 _ (by omega)]
    · rw [z _ (by omega), q5 _ (by omega), q4 _ (by omega), (g3 l hl).2 j hj, q2 _ (by omega), q1 _ (by omega)]
    · rw [z _ (by omega), g5 k hk j hj, q4 _ (by omega), q3 _ (by omega), q2 _ (by omega), q1 _ (by omega)]
end PureI
