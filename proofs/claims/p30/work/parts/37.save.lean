/-! PURE: saving, on the class's side -/
section PureSave
theorem sb_k {b : Nat} (h : SB b) : KF b = (4, 0) ∧ KF (b + 1) = (2, 0) ∧ (KF (b + 2) = (8, 24) ∧ KF (b + 3) = (8, 24) ∧ KF (b + 4) = (8, 24)) ∧ KF (b + 5) = (8, 7) ∧ KF (b + 6) = (10, 6) ∧ KF (b + 7) = (9, 6) ∧
    (∀ i, i < 6 → KF (b + 8 + 2 * i) = (3, 0) ∧ KF (b + 9 + 2 * i) = (8, 6)) ∧ ∀ i, i < 6 → KF (b + 20 + i) = (1, 0) := by
  rcases h with rfl | rfl | rfl | rfl | rfl <;> decide +kernel
theorem s_0 {μ : Mm} {b : Nat} (hR : RF μ) (h : SB b) : rf KF μ b 0 2 = some (b + 1) := rf_of (hR.1 b h).1 (by rw [(sb_k h).2.1])
theorem s_h2 {μ : Mm} {b : Nat} (hR : RF μ) (h : SB b) : rf KF μ (b + 1) 2 8 = some (b + 2) := rf_of (hR.1 b h).2.1.1 (by rw [(sb_k h).2.2.1.1])
theorem s_h3 {μ : Mm} {b : Nat} (hR : RF μ) (h : SB b) : rf KF μ (b + 1) 3 8 = some (b + 3) := rf_of (hR.1 b h).2.1.2.1 (by rw [(sb_k h).2.2.1.2.1])
theorem s_h4 {μ : Mm} {b : Nat} (hR : RF μ) (h : SB b) : rf KF μ (b + 1) 4 8 = some (b + 4) := rf_of (hR.1 b h).2.1.2.2 (by rw [(sb_k h).2.2.1.2.2])
theorem s_2 {μ : Mm} {b : Nat} (hR : RF μ) (h : SB b) : rf KF μ b 2 8 = some (b + 5) := rf_of (hR.1 b h).2.2.2.1 (by rw [(sb_k h).2.2.2.1])
theorem s_3 {μ : Mm} {b : Nat} (hR : RF μ) (h : SB b) : rf KF μ b 3 10 = some (b + 6) := rf_of (hR.1 b h).2.2.2.2.1 (by rw [(sb_k h).2.2.2.2.1])
theorem s_5 {μ : Mm} {b : Nat} (hR : RF μ) (h : SB b) : rf KF μ b 5 9 = some (b + 7) := rf_of (hR.1 b h).2.2.2.2.2.1 (by rw [(sb_k h).2.2.2.2.2.1])
theorem s_lab {μ : Mm} {b i : Nat} (hR : RF μ) (h : SB b) (hi : i < 6) : rf KF μ (b + 6) i 3 = some (b + 8 + 2 * i) := rf_of ((hR.1 b h).2.2.2.2.2.2.1 i hi).1 (by rw [((sb_k h).2.2.2.2.2.2.1 i hi).1])
theorem s_row {μ : Mm} {b i : Nat} (hR : RF μ) (h : SB b) (hi : i < 6) : rf KF μ (b + 8 + 2 * i) 4 8 = some (b + 9 + 2 * i) := rf_of ((hR.1 b h).2.2.2.2.2.2.1 i hi).2 (by rw [((sb_k h).2.2.2.2.2.2.1 i hi).2])
theorem s_cus {μ : Mm} {b i : Nat} (hR : RF μ) (h : SB b) (hi : i < 6) : rf KF μ (b + 7) i 1 = some (b + 20 + i) := rf_of ((hR.1 b h).2.2.2.2.2.2.2 i hi) (by rw [(sb_k h).2.2.2.2.2.2.2 i hi])
theorem sb_ne {b b' : Nat} (h : SB b) (h' : SB b') (n : b ≠ b') : b + 26 ≤ b' ∨ b' + 26 ≤ b := by
  rcases h with rfl | rfl | rfl | rfl | rfl <;> rcases h' with rfl | rfl | rfl | rfl | rfl <;> omega
theorem ok0 {n m : Nat} (h : n ≤ m) (hm : m < 1000) : okc (nI 0) (nI 0) (nI n) m m := by
  refine ⟨nI_pos (by omega), nI_pos (by omega), nI_pos (by omega), ?_, ?_⟩ <;> rw [ix_n (by omega), ix_n (by omega)] <;> omega
theorem cpy0 {f g : Nat → Int32} {n j : Nat} (h : j < n) : va_cpy f g 0 0 n j = f j := by
  unfold va_cpy
  rw [if_pos (by omega)]
  congr 1
  omega
theorem tk_head {μ : Mm} {b b' : Nat} (hR : RF μ) (h : SB b) (h' : SB b') (n : b ≠ b') : ∃ μ', f_X3_takeOver KF μ (b + 1) (b' + 1) = some μ' ∧ FrI (fun a => b + 1 ≤ a ∧ a ≤ b + 4) μ μ' ∧
    (μ'.1 (b + 1) 0 = μ.1 (b' + 1) 0 ∧ μ'.1 (b + 1) 1 = μ.1 (b' + 1) 1) ∧ ∀ j, j < 24 → μ'.1 (b + 2) j = μ.1 (b' + 2) j ∧ μ'.1 (b + 3) j = μ.1 (b' + 3) j ∧ μ'.1 (b + 4) j = μ.1 (b' + 4) j := by
  have hd := sb_ne h h' n
  obtain ⟨-, -, ⟨k2, k3, k4⟩, -⟩ := sb_k h
  obtain ⟨-, -, ⟨k2', k3', k4'⟩, -⟩ := sb_k h'
  refine ⟨sIr (sIr (sIr (sI (sI μ (b + 1) 0 (μ.1 (b' + 1) 0)) (b + 1) 1 (μ.1 (b' + 1) 1)) (b + 2) (va_cpy (μ.1 (b' + 2)) (μ.1 (b + 2)) 0 0 24)) (b + 3) (va_cpy (μ.1 (b' + 3)) (μ.1 (b + 3)) 0 0 24)) (b + 4) (va_cpy (μ.1 (b' + 4)) (μ.1 (b + 4)) 0 0 24), ?_, ?_, ⟨?_, ?_⟩, fun j hj => ⟨?_, ?_, ?_⟩⟩
  · unfold f_X3_takeOver
    have o24 : okc 0 0 24 24 24 := ok0 (n := 24) (m := 24) (Nat.le_refl 24) (by omega)
    simp (disch := omega) only [l1_s, rf_sI, rf_sIr, s_h2 hR h, s_h2 hR h', s_h3 hR h, s_h3 hR h', s_h4 hR h, s_h4 hR h', bd_s, k2, k3, k4, k2', k3', k4', gd_t o24, sI_no, sI_rw, sIr_no, show ix 0 = 0 from rfl, show ix 24 = 24 from rfl]
  · refine ((((FrI.rfl.sI ?_).sI ?_).sIr ?_).sIr ?_).sIr ?_ <;> constructor <;> omega
  · rw [sIr_no (by omega), sIr_no (by omega), sIr_no (by omega), sI_of (by omega), sI_at]
  · rw [sIr_no (by omega), sIr_no (by omega), sIr_no (by omega), sI_at]
  · rw [sIr_no (by omega), sIr_no (by omega), sIr_at, cpy0 hj]
  · rw [sIr_no (by omega), sIr_at, cpy0 hj]
  · rw [sIr_at, cpy0 hj]
theorem tk_label {μ : Mm} {b b' i : Nat} (hR : RF μ) (h : SB b) (h' : SB b') (n : b ≠ b') (hi : i < 6) : ∃ μ', f_X4_takeOver KF μ (b + 8 + 2 * i) (b' + 8 + 2 * i) = some μ' ∧ FrI (fun a => b + 8 + 2 * i ≤ a ∧ a ≤ b + 9 + 2 * i) μ μ' ∧
    (∀ j, j < 4 → μ'.1 (b + 8 + 2 * i) j = μ.1 (b' + 8 + 2 * i) j) ∧ ∀ j, j < 6 → μ'.1 (b + 9 + 2 * i) j = μ.1 (b' + 9 + 2 * i) j := by
  have hd := sb_ne h h' n
  have k := ((sb_k h).2.2.2.2.2.2.1 i hi).2
  have k' := ((sb_k h').2.2.2.2.2.2.1 i hi).2
  refine ⟨sIr (sI (sI (sI (sI μ (b + 8 + 2 * i) 0 (μ.1 (b' + 8 + 2 * i) 0)) (b + 8 + 2 * i) 1 (μ.1 (b' + 8 + 2 * i) 1)) (b + 8 + 2 * i) 2 (μ.1 (b' + 8 + 2 * i) 2)) (b + 8 + 2 * i) 3 (μ.1 (b' + 8 + 2 * i) 3)) (b + 9 + 2 * i) (va_cpy (μ.1 (b' + 9 + 2 * i)) (μ.1 (b + 9 + 2 * i)) 0 0 6), ?_, ?_, fun j hj => ?_, fun j hj => ?_⟩
  · unfold f_X4_takeOver
    have o6 : okc 0 0 6 6 6 := ok0 (n := 6) (m := 6) (Nat.le_refl 6) (by omega)
    simp (disch := omega) only [l1_s, rf_sI, rf_sIr, s_row hR h hi, s_row hR h' hi, bd_s, k, k', gd_t o6, sI_no, sI_rw, sIr_no, show ix 0 = 0 from rfl, show ix 6 = 6 from rfl]
  · refine ((((FrI.rfl.sI ?_).sI ?_).sI ?_).sI ?_).sIr ?_ <;> constructor <;> omega
  · rw [sIr_no (by omega)]
    rcases (show j = 0 ∨ j = 1 ∨ j = 2 ∨ j = 3 by omega) with rfl | rfl | rfl | rfl <;> simp (disch := omega) only [sI_at, sI_of]
  · rw [sIr_at, cpy0 hj]
theorem tk_customer {μ : Mm} {b b' i : Nat} (h : SB b) (h' : SB b') (n : b ≠ b') (hi : i < 6) : ∃ μ', f_X2_takeOver KF μ (b + 20 + i) (b' + 20 + i) = some μ' ∧ FrI (fun a => a = b + 20 + i) μ μ' ∧ ∀ j, j < 6 → μ'.1 (b + 20 + i) j = μ.1 (b' + 20 + i) j := by
  have hd := sb_ne h h' n
  refine ⟨sI (sI (sI (sI (sI (sI μ (b + 20 + i) 0 (μ.1 (b' + 20 + i) 0)) (b + 20 + i) 1 (μ.1 (b' + 20 + i) 1)) (b + 20 + i) 2 (μ.1 (b' + 20 + i) 2)) (b + 20 + i) 3 (μ.1 (b' + 20 + i) 3)) (b + 20 + i) 4 (μ.1 (b' + 20 + i) 4)) (b + 20 + i) 5 (μ.1 (b' + 20 + i) 5), ?_, ?_, fun j hj => ?_⟩
  · unfold f_X2_takeOver
    simp (disch := omega) only [l1_s, sI_no]
  · exact ((((((FrI.rfl (S := fun a => a = b + 20 + i)).sI rfl).sI rfl).sI rfl).sI rfl).sI rfl).sI rfl
  · rcases j6 hj with rfl | rfl | rfl | rfl | rfl | rfl <;> simp (disch := omega) only [sI_at, sI_of]
/-- the contents of a state are those of another one -/
def Cop (μ' : Mm) (b : Nat) (μ : Mm) (b' : Nat) : Prop := (μ'.1 (b + 1) 0 = μ.1 (b' + 1) 0 ∧ μ'.1 (b + 1) 1 = μ.1 (b' + 1) 1) ∧ (∀ j, j < 24 → μ'.1 (b + 2) j = μ.1 (b' + 2) j ∧ μ'.1 (b + 3) j = μ.1 (b' + 3) j ∧ μ'.1 (b + 4) j = μ.1 (b' + 4) j) ∧
  (∀ j, j < 7 → μ'.1 (b + 5) j = μ.1 (b' + 5) j) ∧ (μ'.1 b 4 = μ.1 b' 4 ∧ μ'.1 b 6 = μ.1 b' 6 ∧ μ'.1 b 7 = μ.1 b' 7) ∧
  (∀ l, l < 6 → (∀ j, j < 4 → μ'.1 (b + 8 + 2 * l) j = μ.1 (b' + 8 + 2 * l) j) ∧ ∀ j, j < 6 → μ'.1 (b + 9 + 2 * l) j = μ.1 (b' + 9 + 2 * l) j) ∧ ∀ k, k < 6 → ∀ j, j < 6 → μ'.1 (b + 20 + k) j = μ.1 (b' + 20 + k) j
theorem Cop.cpl {μ μ' : Mm} {b b' D L C : Nat} {f : Nat → Int32} (hD : D ≤ 24 ∧ L ≤ 6 ∧ C ≤ 6) (c : Cop μ' b μ b') (h : Cpl μ b' f D L C) : Cpl μ' b f D L C := by
  obtain ⟨⟨c1, c2⟩, c3, c4, ⟨c5, c6, c7⟩, c8, c9⟩ := c
  obtain ⟨⟨h1, h1'⟩, h2, h3, ⟨h4, h4', h4''⟩, h5, h6, h7, h8⟩ := h
  refine ⟨⟨c1.trans h1, c2.trans h1'⟩, fun d hd => ?_, fun j hj => (c4 j hj).trans (h3 j hj), ⟨c5.trans h4, c6.trans h4', c7.trans h4''⟩, fun l hl => ?_, fun l hl hl' => ?_, fun k hk j hj => (c9 k (by omega) j hj).trans (h7 k hk j hj), fun k hk hk' => ?_⟩
  · obtain ⟨x1, x2, x3⟩ := c3 d (by omega)
    obtain ⟨y1, y2, y3⟩ := h2 d hd
    exact ⟨x1.trans y1, x2.trans y2, x3.trans y3⟩
  · obtain ⟨x1, x2⟩ := c8 l (by omega)
    obtain ⟨⟨y1, y2, y3, y4⟩, y5⟩ := h5 l hl
    exact ⟨⟨(x1 0 (by omega)).trans y1, (x1 1 (by omega)).trans y2, (x1 2 (by omega)).trans y3, (x1 3 (by omega)).trans y4⟩, fun r hr => (x2 r hr).trans (y5 r hr)⟩
  · obtain ⟨x1, x2⟩ := c8 l (by omega)
    obtain ⟨⟨y3, y4⟩, y5⟩ := h6 l hl hl'
    exact ⟨⟨(x1 2 (by omega)).trans y3, (x1 3 (by omega)).trans y4⟩, fun r hr => (x2 r hr).trans (y5 r hr)⟩
  · obtain ⟨y1, y2, y3⟩ := h8 k hk hk'
    exact ⟨(c9 k hk' 0 (by omega)).trans y1, (c9 k hk' 1 (by omega)).trans y2, fun j hj hj' => (c9 k hk' j hj').trans (y3 j hj hj')⟩
theorem c_takeOver {μ : Mm} {b b' : Nat} (hR : RF μ) (h : SB b) (h' : SB b') (n : b ≠ b') : ∃ μ', f_X5_takeOver KF μ b b' = some μ' ∧ FrI (fun a => b ≤ a ∧ a ≤ b + 25) μ μ' ∧ Cop μ' b μ b' := by
  have hd := sb_ne h h' n
  obtain ⟨-, -, -, k5, k6, k7, -⟩ := sb_k h
  obtain ⟨-, -, -, k5', k6', k7', -⟩ := sb_k h'
  obtain ⟨μ1, e1, f1, g1, g2⟩ := tk_head hR h h' n
  have hR1 := hR.fr f1
  have o7 : okc 0 0 7 7 7 := ok0 (n := 7) (m := 7) (Nat.le_refl 7) (by omega)
  have q1 : ∀ a, ¬ (b + 1 ≤ a ∧ a ≤ b + 4) → μ1.1 a = μ.1 a := fun a ha => f1.2 a ha
  let μ2 := sIr μ1 (b + 5) (va_cpy (μ1.1 (b' + 5)) (μ1.1 (b + 5)) (ix 0) (ix 0) (ix 7))
  have f2 : FrI (fun a => a = b + 5) μ1 μ2 := FrI.rfl.sIr rfl
  have hR2 : RF μ2 := hR1.fr f2
  have q2 : ∀ a, a ≠ b + 5 → μ2.1 a = μ1.1 a := fun a ha => f2.2 a ha
  obtain ⟨μ3, e3, f3, g3⟩ := lp0 (fun m i ν => f_X5_takeOver_l28 KF b b' m ν (nI i)) 6 (by decide)
    (fun i ν => FrI (fun a => b + 8 ≤ a ∧ a ≤ b + 19) μ2 ν ∧ ∀ l, l < i → (∀ j, j < 4 → ν.1 (b + 8 + 2 * l) j = μ2.1 (b' + 8 + 2 * l) j) ∧ ∀ j, j < 6 → ν.1 (b + 9 + 2 * l) j = μ2.1 (b' + 9 + 2 * l) j)
    (fun ν => FrI (fun a => b + 8 ≤ a ∧ a ≤ b + 19) μ2 ν ∧ ∀ l, l < 6 → (∀ j, j < 4 → ν.1 (b + 8 + 2 * l) j = μ2.1 (b' + 8 + 2 * l) j) ∧ ∀ j, j < 6 → ν.1 (b + 9 + 2 * l) j = μ2.1 (b' + 9 + 2 * l) j)
    (by
      rintro m i ν hi ⟨p1, p2⟩
      have hRν := hR2.fr p1
      obtain ⟨ν', y1, y2, y3, y4⟩ := tk_label hRν h h' n hi
      have qν : ∀ a, ¬ (b + 8 ≤ a ∧ a ≤ b + 19) → ν.1 a = μ2.1 a := fun a ha => p1.2 a ha
      have qν' : ∀ a, ¬ (b + 8 + 2 * i ≤ a ∧ a ≤ b + 9 + 2 * i) → ν'.1 a = ν.1 a := fun a ha => y2.2 a ha
      refine Or.inr ⟨ν', ?_, p1.trans (y2.mono (fun a ha => ⟨by have := ha.1; omega, by have := ha.2; omega⟩)), fun l hl => ?_⟩
      · simp (disch := omega) only [f_X5_takeOver_l28, L6, leN, if_neg (Nat.not_le.mpr hi), s_3 hRν h, s_3 hRν h', bd_s, l1_s, k6, k6', gd_n, ix_n, s_lab hRν h hi, s_lab hRν h' hi, y1, nI_succ i]
      · by_cases e : l = i
        · subst e
          exact ⟨fun j hj => by rw [y3 j hj, qν _ (by omega)], fun j hj => by rw [y4 j hj, qν _ (by omega)]⟩
        · obtain ⟨z1, z2⟩ := p2 l (by omega)
          exact ⟨fun j hj => by rw [qν' _ (by omega)]; exact z1 j hj, fun j hj => by rw [qν' _ (by omega)]; exact z2 j hj⟩)
    (by
      rintro m ν p
      refine ⟨ν, ?_, p⟩
      simp (disch := omega) only [f_X5_takeOver_l28, L6, leN, if_pos (Nat.le_refl 6)]) μ2 ⟨FrI.rfl, fun l hl => absurd hl (by omega)⟩
  have hR3 := hR2.fr f3
  have q3 : ∀ a, ¬ (b + 8 ≤ a ∧ a ≤ b + 19) → μ3.1 a = μ2.1 a := fun a ha => f3.2 a ha
  let μ4 := sI μ3 b 4 (μ3.1 b' 4)
  have f4 : FrI (fun a => a = b) μ3 μ4 := FrI.rfl.sI rfl
  have hR4 : RF μ4 := hR3.fr f4
  have q4 : ∀ a, a ≠ b → μ4.1 a = μ3.1 a := fun a ha => f4.2 a ha
  obtain ⟨μ5, e5, f5, g5⟩ := lp0 (fun m i ν => f_X5_takeOver_l65 KF b b' m ν (nI i)) 6 (by decide)
    (fun i ν => FrI (fun a => b + 20 ≤ a ∧ a ≤ b + 25) μ4 ν ∧ ∀ l, l < i → ∀ j, j < 6 → ν.1 (b + 20 + l) j = μ4.1 (b' + 20 + l) j)
    (fun ν => FrI (fun a => b + 20 ≤ a ∧ a ≤ b + 25) μ4 ν ∧ ∀ l, l < 6 → ∀ j, j < 6 → ν.1 (b + 20 + l) j = μ4.1 (b' + 20 + l) j)
    (by
      rintro m i ν hi ⟨p1, p2⟩
      have hRν := hR4.fr p1
      obtain ⟨ν', y1, y2, y3⟩ := tk_customer (μ := ν) h h' n hi
      have qν : ∀ a, ¬ (b + 20 ≤ a ∧ a ≤ b + 25) → ν.1 a = μ4.1 a := fun a ha => p1.2 a ha
      have qν' : ∀ a, a ≠ b + 20 + i → ν'.1 a = ν.1 a := fun a ha => y2.2 a ha
      refine Or.inr ⟨ν', ?_, p1.trans (y2.mono (fun a ha => by have ha : a = b + 20 + i := ha; exact ⟨by omega, by omega⟩)), fun l hl j hj => ?_⟩
      · simp (disch := omega) only [f_X5_takeOver_l65, L6, leN, if_neg (Nat.not_le.mpr hi), s_5 hRν h, s_5 hRν h', bd_s, l1_s, k7, k7', gd_n, ix_n, s_cus hRν h hi, s_cus hRν h' hi, y1, nI_succ i]
      · by_cases e : l = i
        · subst e
          rw [y3 j hj, qν _ (by omega)]
        · rw [qν' _ (by omega)]
          exact p2 l (by omega) j hj)
    (by
      rintro m ν p
      refine ⟨ν, ?_, p⟩
      simp (disch := omega) only [f_X5_takeOver_l65, L6, leN, if_pos (Nat.le_refl 6)]) μ4 ⟨FrI.rfl, fun l hl => absurd hl (by omega)⟩
  have q5 : ∀ a, ¬ (b + 20 ≤ a ∧ a ≤ b + 25) → μ5.1 a = μ4.1 a := fun a ha => f5.2 a ha
  refine ⟨sI (sI μ5 b 6 (μ5.1 b' 6)) b 7 (μ5.1 b' 7), ?_, ?_, ?_⟩
  · unfold f_X5_takeOver
    have e3' : f_X5_takeOver_l28 KF b b' FU μ2 0 = some μ3 := e3
    have e5' : f_X5_takeOver_l65 KF b b' FU (sI μ3 b 4 (μ3.1 b' 4)) 0 = some μ5 := e5
    simp (disch := omega) only [s_0 hR h, s_0 hR h', bd_s, e1, s_2 hR1 h, s_2 hR1 h', k5, k5', gd_t o7, l1_s]
    rw [show f_X5_takeOver_l28 KF b b' FU (sIr μ1 (b + 5) (va_cpy (μ1.1 (b' + 5)) (μ1.1 (b + 5)) (ix 0) (ix 0) (ix 7))) 0 = some μ3 from e3']
    simp (disch := omega) only [bd_s, l1_s, e5', sI_no]
  · have w : ∀ {ν ν' : Mm} {lo hi : Nat}, FrI (fun a => b + lo ≤ a ∧ a ≤ b + hi) ν ν' → hi ≤ 25 → FrI (fun a => b ≤ a ∧ a ≤ b + 25) ν ν' := fun f hh => f.mono (fun a ha => ⟨by have := ha.1; omega, by have := ha.2; omega⟩)
    have w1 := (w f1 (by omega)).trans (f2.mono (fun a ha => by have ha : a = b + 5 := ha; exact ⟨by omega, by omega⟩))
    have w2 := (w1.trans (w f3 (by omega))).trans (f4.mono (fun a ha => by have ha : a = b := ha; exact ⟨by omega, by omega⟩))
    exact ((w2.trans (w f5 (by omega))).sI ⟨by omega, by omega⟩).sI ⟨by omega, by omega⟩
  · have z : ∀ a, a ≠ b → (sI (sI μ5 b 6 (μ5.1 b' 6)) b 7 (μ5.1 b' 7)).1 a = μ5.1 a := fun a ha => by rw [sI_rw ha, sI_rw ha]
    have s5 : ∀ a, (b' ≤ a ∧ a ≤ b' + 25) → μ5.1 a = μ.1 a := fun a ha => by
      rw [q5 a (by omega), q4 a (by omega), q3 a (by omega), q2 a (by omega), q1 a (by omega)]
    refine ⟨⟨?_, ?_⟩, fun j hj => ?_, fun j hj => ?_, ⟨?_, ?_, ?_⟩, fun l hl => ⟨fun j hj => ?_, fun j hj => ?_⟩, fun k hk j hj => ?_⟩
    · rw [z _ (by omega), q5 _ (by omega), q4 _ (by omega), q3 _ (by omega), q2 _ (by omega)]
      exact g1.1
    · rw [z _ (by omega), q5 _ (by omega), q4 _ (by omega), q3 _ (by omega), q2 _ (by omega)]
      exact g1.2
    · rw [z (b + 2) (by omega), z (b + 3) (by omega), z (b + 4) (by omega), q5 (b + 2) (by omega), q5 (b + 3) (by omega), q5 (b + 4) (by omega), q4 (b + 2) (by omega), q4 (b + 3) (by omega), q4 (b + 4) (by omega), q3 (b + 2) (by omega), q3 (b + 3) (by omega), q3 (b + 4) (by omega), q2 (b + 2) (by omega), q2 (b + 3) (by omega), q2 (b + 4) (by omega)]
      exact g2 j hj
    · rw [z _ (by omega), q5 _ (by omega), q4 _ (by omega), q3 _ (by omega), show μ2.1 (b + 5) = va_cpy (μ1.1 (b' + 5)) (μ1.1 (b + 5)) 0 0 7 from sIr_at, cpy0 hj, q1 _ (by omega)]
    · rw [sI_of (by omega), sI_of (by omega), q5 _ (by omega), show μ4.1 b 4 = μ3.1 b' 4 from sI_at, q3 _ (by omega), q2 _ (by omega), q1 _ (by omega)]
    · rw [sI_of (by omega), sI_at, s5 _ (by omega)]
    · rw [sI_at, s5 _ (by omega)]
    · rw [z _ (by omega), q5 _ (by omega), q4 _ (by omega), (g3 l hl).1 j hj, q2 _ (by omega), q1 _ (by omega)]
    · rw [z _ (by omega), q5 _ (by omega), q4 _ (by omega), (g3 l hl).2 j hj, q2 _ (by omega), q1 _ (by omega)]
    · rw [z _ (by omega), g5 k hk j hj, q4 _ (by omega), q3 _ (by omega), q2 _ (by omega), q1 _ (by omega)]
theorem RF.cg {μ μ' : Mm} (h : RF μ) (e : ∀ k j, k ≠ 4 → (k ≠ 1 ∨ j ≠ 4) → μ'.2.1 k j = μ.2.1 k j) : RF μ' := by
  obtain ⟨h1, ⟨h2, h2', h2''⟩, ⟨h3, h3', h3''⟩, ⟨h4, h4'⟩⟩ := h
  refine ⟨fun b hb => ?_, ⟨by rw [e _ _ (by omega) (by omega)]; exact h2, by rw [e _ _ (by omega) (by omega)]; exact h2', by rw [e _ _ (by omega) (by omega)]; exact h2''⟩, ⟨by rw [e _ _ (by omega) (by omega)]; exact h3, by rw [e _ _ (by omega) (by omega)]; exact h3', by rw [e _ _ (by omega) (by omega)]; exact h3''⟩, ⟨by rw [e _ _ (by omega) (by omega)]; exact h4, by rw [e _ _ (by omega) (by omega)]; exact h4'⟩⟩
  have b9 : 9 ≤ b := by rcases hb with rfl | rfl | rfl | rfl | rfl <;> omega
  obtain ⟨p1, ⟨p2, p2', p2''⟩, p3, p4, p5, p6, p7, p8⟩ := h1 b hb
  refine ⟨by rw [e _ _ (by omega) (by omega)]; exact p1, ⟨by rw [e _ _ (by omega) (by omega)]; exact p2, by rw [e _ _ (by omega) (by omega)]; exact p2', by rw [e _ _ (by omega) (by omega)]; exact p2''⟩, by rw [e _ _ (by omega) (by omega)]; exact p3, by rw [e _ _ (by omega) (by omega)]; exact p4, by rw [e _ _ (by omega) (by omega)]; exact p5, by rw [e _ _ (by omega) (by omega)]; exact p6,
    fun i hi => ⟨by rw [e _ _ (by omega) (by omega)]; exact (p7 i hi).1, by rw [e _ _ (by omega) (by omega)]; exact (p7 i hi).2⟩, fun i hi => by rw [e _ _ (by omega) (by omega)]; exact p8 i hi⟩
/-- the saved states: p says which one lies where -/
def PM (μ : Mm) (p : Nat → Nat) : Prop := (∀ j, j < 4 → μ.2.1 4 j = some (p j) ∧ SB (p j) ∧ p j ≠ 9) ∧ ∀ i j, i < 4 → j < 4 → p i = p j → i = j
/-- what saving may change -/
def FS (μ μ' : Mm) : Prop := (∀ a, (1 ≤ a ∧ a ≤ 3 ∨ 5 ≤ a ∧ a ≤ 34 ∨ 139 ≤ a) → μ'.1 a = μ.1 a) ∧ (∀ a, a ≠ 4 → μ'.2.1 a = μ.2.1 a) ∧ μ'.2.2 = μ.2.2
theorem sR_at {μ : Mm} {k j : Nat} {v : Option Nat} : (sR μ k j v).2.1 k j = v := by simp [sR, up2]
theorem sR_of {μ : Mm} {k j b : Nat} {v : Option Nat} (h : b ≠ j) : (sR μ k j v).2.1 k b = μ.2.1 k b := by simp [sR, up2, h]
theorem sR_rw {μ : Mm} {k j a : Nat} {v : Option Nat} (h : a ≠ k) : (sR μ k j v).2.1 a = μ.2.1 a := by funext b; simp [sR, up2, h]
theorem rf_row {K : Nat → Nat × Nat} {μ μ' : Mm} {k j c : Nat} (h : μ'.2.1 k = μ.2.1 k) : rf K μ' k j c = rf K μ k j c := by
  unfold rf
  rw [h]
theorem PM.r {μ : Mm} {p : Nat → Nat} (h : PM μ p) {j : Nat} (hj : j < 4) : rf KF μ 4 j 4 = some (p j) := rf_of (h.1 j hj).1 (by rw [(sb_k (h.1 j hj).2.1).1])
/-- saved once more on the class's side: q says where the states lie now -/
theorem c_save {μ : Mm} (hR : RF μ) {n : Nat} (hn : n ≤ 4) (h2 : μ.1 0 2 = nI n) {p : Nat → Nat} (hp : PM μ p) : ∃ μ' q, f_X7_save KF μ 0 = some μ' ∧ FS μ μ' ∧ PM μ' q ∧
    ((n < 4 ∧ μ'.1 0 2 = nI (n + 1) ∧ (∀ i, i < n → ∀ a, q i ≤ a → a ≤ q i + 25 → q i = p i ∧ μ'.1 a = μ.1 a) ∧ Cop μ' (q n) μ 9) ∨
     (n = 4 ∧ μ'.1 0 2 = nI 4 ∧ (∀ i, i < 3 → ∀ a, q i ≤ a → a ≤ q i + 25 → q i = p (i + 1) ∧ μ'.1 a = μ.1 a) ∧ Cop μ' (q 3) μ 9)) := by
  by_cases e4 : n = 4
  · subst e4
    obtain ⟨μ1, e1, f1, f2, f3, f4, f5⟩ := lp (fun m i ν => f_X7_save_l17 KF 0 (p 0) m ν (nI i)) 4
      (fun i ν => 1 ≤ i ∧ ν.1 = μ.1 ∧ ν.2.2 = μ.2.2 ∧ (∀ a, a ≠ 4 → ν.2.1 a = μ.2.1 a) ∧ (∀ j, j + 1 < i → ν.2.1 4 j = some (p (j + 1))) ∧ ∀ j, i ≤ j + 1 → j < 4 → ν.2.1 4 j = some (p j))
      (fun ν => ν.1 = μ.1 ∧ ν.2.2 = μ.2.2 ∧ (∀ a, a ≠ 4 → ν.2.1 a = μ.2.1 a) ∧ (∀ j, j + 1 < 4 → ν.2.1 4 j = some (p (j + 1))) ∧ ∀ j, 4 ≤ j + 1 → j < 4 → ν.2.1 4 j = some (p j))
      (by
        rintro m i ν hi ⟨p0, p1, p2, p3, p4, p5⟩
        have r0 : rf KF ν 0 1 11 = some 4 := (rf_row (p3 0 (by omega))).trans (r_01 hR)
        have r4 : rf KF ν 4 i 4 = some (p i) := rf_of (p5 i (by omega) hi) (by rw [(sb_k (hp.1 i hi).2.1).1])
        refine Or.inr ⟨sR ν 4 (i - 1) (some (p i)), ?_, by omega, p1, p2, fun a ha => ?_, fun j hj => ?_, fun j hj hj' => ?_⟩
        · simp (disch := omega) only [f_X7_save_l17, L4, L1, leN, if_neg (Nat.not_le.mpr hi), r0, bd_s, l1_s, K4, gd_n, ix_n, r4, pk_sub, nI_add]
        · rw [sR_rw ha]
          exact p3 a ha
        · by_cases e : j = i - 1
          · rw [e, sR_at, show i - 1 + 1 = i by omega]
          · rw [sR_of e]
            exact p4 j (by omega)
        · rw [sR_of (by omega)]
          exact p5 j (by omega) hj')
      (by
        rintro m ν ⟨p0, p1⟩
        refine ⟨ν, ?_, p1⟩
        simp (disch := omega) only [f_X7_save_l17, L4, leN, if_pos (Nat.le_refl 4)]) 3 1 μ FU (by omega) (by unfold FU; omega) ⟨by omega, rfl, rfl, fun _ _ => rfl, fun j hj => absurd hj (by omega), fun j _ hj => (hp.1 j hj).1⟩
    let μ2 := sI (sR μ1 4 3 (some (p 0))) 0 2 (nI 3)
    have g1 : ∀ a, a ≠ 0 → μ2.1 a = μ.1 a := fun a ha => by
      show (sI (sR μ1 4 3 (some (p 0))) 0 2 (nI 3)).1 a = μ.1 a
      rw [sI_rw ha]
      exact congrFun f1 a
    have g2 : ∀ a, a ≠ 4 → μ2.2.1 a = μ.2.1 a := fun a ha => (sR_rw ha).trans (f3 a ha)
    have hR2 : RF μ2 := hR.cg (fun k j hk _ => by rw [g2 k hk])
    let q : Nat → Nat := fun j => if j < 3 then p (j + 1) else p 0
    have hq : PM μ2 q := by
      refine ⟨fun j hj => ?_, fun i j hi hj e => ?_⟩
      · by_cases h3 : j < 3
        · rw [show q j = p (j + 1) from if_pos h3]
          refine ⟨?_, (hp.1 (j + 1) (by omega)).2⟩
          rw [show μ2.2.1 4 j = μ1.2.1 4 j from sR_of (by omega)]
          exact f4 j (by omega)
        · rw [show q j = p 0 from if_neg h3]
          refine ⟨?_, (hp.1 0 (by omega)).2⟩
          rw [show j = 3 by omega]
          exact sR_at
      · by_cases hi3 : i < 3 <;> by_cases hj3 : j < 3
        · rw [show q i = p (i + 1) from if_pos hi3, show q j = p (j + 1) from if_pos hj3] at e
          have := hp.2 _ _ (by omega) (by omega) e
          omega
        · rw [show q i = p (i + 1) from if_pos hi3, show q j = p 0 from if_neg hj3] at e
          have := hp.2 _ _ (by omega) (by omega) e
          omega
        · rw [show q i = p 0 from if_neg hi3, show q j = p (j + 1) from if_pos hj3] at e
          have := hp.2 _ _ (by omega) (by omega) e
          omega
        · omega
    have q3 : q 3 = p 0 := if_neg (by omega)
    obtain ⟨s1, s2, s3⟩ := hp.1 0 (by omega)
    obtain ⟨μ3, e3, k3, c3⟩ := c_takeOver hR2 s2 sb9 s3
    have d9 : p 0 ≥ 35 := by rcases s2 with h | h | h | h | h <;> omega
    have d139 : p 0 ≤ 113 := by rcases s2 with h | h | h | h | h <;> omega
    have k3' : ∀ a, ¬ (p 0 ≤ a ∧ a ≤ p 0 + 25) → μ3.1 a = μ2.1 a := fun a ha => k3.2 a ha
    have z0 : μ3.1 0 2 = nI 3 := by rw [k3' 0 (by omega)]; exact sI_at
    refine ⟨sI μ3 0 2 (nI 4), q, ?_, ⟨fun a ha => ?_, fun a ha => ?_, ?_⟩, ⟨fun j hj => ?_, hq.2⟩, Or.inr ⟨rfl, sI_at, fun i hi a ha ha' => ⟨if_pos hi, ?_⟩, ?_⟩⟩
    · unfold f_X7_save
      have r0 := r_01 hR
      have e1' : f_X7_save_l17 KF 0 (p 0) FU μ (nI 1) = some μ1 := e1
      have r1 : rf KF μ1 0 1 11 = some 4 := (rf_row (f3 0 (by omega))).trans r0
      have r4 : rf KF μ 4 0 4 = some (p 0) := hp.r (by omega)
      have x0 : (sR μ1 4 3 (some (p 0))).1 0 2 - 1 = nI 3 := by
        show μ1.1 0 2 - 1 = nI 3
        rw [f1, h2]
        rfl
      have r2 : rf KF μ2 0 1 11 = some 4 := r_01 hR2
      have r24 : rf KF μ2 4 3 4 = some (p 0) := by rw [← q3]; exact hq.r (by omega)
      have y0 : μ2.1 0 2 = nI 3 := sI_at
      have x3 : μ3.1 0 2 + 1 = nI 4 := by rw [z0]; rfl
      rw [h2, if_pos (show nI 4 = 4 from rfl)]
      simp (disch := omega) only [r0, bd_s, l1_s, K4, L0, gd_n, ix_n, r4]
      rw [show f_X7_save_l17 KF 0 (p 0) FU μ 1 = some μ1 from e1']
      simp (disch := omega) only [r1, bd_s, l1_s, K4, L3, gd_n, ix_n, x0]
      rw [show sI (sR μ1 4 3 (some (p 0))) 0 2 (nI 3) = μ2 from rfl]
      simp (disch := omega) only [r2, bd_s, l1_s, K4, y0, gd_n, ix_n, r24, r_03 hR2, e3, x3]
    · rw [sI_rw (by omega), k3' a (by omega)]
      exact g1 a (by omega)
    · show μ3.2.1 a = μ.2.1 a
      rw [k3.1]
      exact g2 a ha
    · show μ3.2.2 = μ.2.2
      rw [k3.1]
      exact f2
    · show μ3.2.1 4 j = _ ∧ _
      rw [k3.1]
      exact hq.1 j hj
    · have hne : q i ≠ p 0 := fun e => by
        have := hq.2 i 3 (by omega) (by omega) (e.trans q3.symm)
        omega
      have hd := sb_ne (hq.1 i (by omega)).2.1 s2 hne
      have l0 : 35 ≤ q i := by
        have h9 := (hq.1 i (by omega)).2.2
        rcases (hq.1 i (by omega)).2.1 with h | h | h | h | h <;> omega
      rw [sI_rw (by omega), k3' a (by omega)]
      exact g1 a (by omega)
    · rw [q3]
      obtain ⟨⟨c1, c2⟩, c4, c5, ⟨c6, c7, c8⟩, c9, c10⟩ := c3
      have t : ∀ a, a ≠ 0 → (sI μ3 0 2 (nI 4)).1 a = μ3.1 a := fun a ha => sI_rw ha
      refine ⟨⟨?_, ?_⟩, fun j hj => ?_, fun j hj => ?_, ⟨?_, ?_, ?_⟩, fun l hl => ⟨fun j hj => ?_, fun j hj => ?_⟩, fun k hk j hj => ?_⟩
      · rw [t _ (by omega), c1, g1 _ (by omega)]
      · rw [t _ (by omega), c2, g1 _ (by omega)]
      · rw [t _ (by omega), t _ (by omega), t _ (by omega), ← g1 (9 + 2) (by omega), ← g1 (9 + 3) (by omega), ← g1 (9 + 4) (by omega)]
        exact c4 j hj
      · rw [t _ (by omega), c5 j hj, g1 _ (by omega)]
      · rw [t _ (by omega), c6, g1 _ (by omega)]
      · rw [t _ (by omega), c7, g1 _ (by omega)]
      · rw [t _ (by omega), c8, g1 _ (by omega)]
      · rw [t _ (by omega), (c9 l hl).1 j hj, g1 _ (by omega)]
      · rw [t _ (by omega), (c9 l hl).2 j hj, g1 _ (by omega)]
      · rw [t _ (by omega), c10 k hk j hj, g1 _ (by omega)]
  · obtain ⟨s1, s2, s3⟩ := hp.1 n (by omega)
    obtain ⟨μ3, e3, k3, c3⟩ := c_takeOver hR s2 sb9 s3
    have d9 : p n ≥ 35 := by rcases s2 with h | h | h | h | h <;> omega
    have d139 : p n ≤ 113 := by rcases s2 with h | h | h | h | h <;> omega
    have k3' : ∀ a, ¬ (p n ≤ a ∧ a ≤ p n + 25) → μ3.1 a = μ.1 a := fun a ha => k3.2 a ha
    have x3 : μ3.1 0 2 + 1 = nI (n + 1) := by rw [k3' 0 (by omega), h2, nI_1]
    refine ⟨sI μ3 0 2 (nI (n + 1)), p, ?_, ⟨fun a ha => ?_, fun a ha => ?_, ?_⟩, ⟨fun j hj => ?_, hp.2⟩, Or.inl ⟨by omega, sI_at, fun i hi a ha ha' => ⟨rfl, ?_⟩, ?_⟩⟩
    · unfold f_X7_save
      have r4 : rf KF μ 4 n 4 = some (p n) := hp.r (by omega)
      rw [h2, if_neg (show ¬ nI n = 4 by rw [L4, eqN (by omega) (by omega)]; exact e4)]
      simp (disch := omega) only [r_01 hR, bd_s, l1_s, K4, gd_n, ix_n, r4, r_03 hR, e3, x3]
    · rw [sI_rw (by omega), k3' a (by omega)]
    · show μ3.2.1 a = μ.2.1 a
      rw [k3.1]
    · show μ3.2.2 = μ.2.2
      rw [k3.1]
    · show μ3.2.1 4 j = _ ∧ _
      rw [k3.1]
      exact hp.1 j hj
    · have hne : p i ≠ p n := fun e => by
        have := hp.2 i n (by omega) (by omega) e
        omega
      have hd := sb_ne (hp.1 i (by omega)).2.1 s2 hne
      have l0 : 35 ≤ p i := by
        have h9 := (hp.1 i (by omega)).2.2
        rcases (hp.1 i (by omega)).2.1 with h | h | h | h | h <;> omega
      rw [sI_rw (by omega), k3' a (by omega)]
    · obtain ⟨⟨c1, c2⟩, c4, c5, ⟨c6, c7, c8⟩, c9, c10⟩ := c3
      have t : ∀ a, a ≠ 0 → (sI μ3 0 2 (nI (n + 1))).1 a = μ3.1 a := fun a ha => sI_rw ha
      refine ⟨⟨?_, ?_⟩, fun j hj => ?_, fun j hj => ?_, ⟨?_, ?_, ?_⟩, fun l hl => ⟨fun j hj => ?_, fun j hj => ?_⟩, fun k hk j hj => ?_⟩
      · rw [t _ (by omega), c1]
      · rw [t _ (by omega), c2]
      · rw [t _ (by omega), t _ (by omega), t _ (by omega)]
        exact c4 j hj
      · rw [t _ (by omega), c5 j hj]
      · rw [t _ (by omega), c6]
      · rw [t _ (by omega), c7]
      · rw [t _ (by omega), c8]
      · rw [t _ (by omega), (c9 l hl).1 j hj]
      · rw [t _ (by omega), (c9 l hl).2 j hj]
      · rw [t _ (by omega), c10 k hk j hj]
theorem FS.rf {μ μ' : Mm} (h : FS μ μ') (hR : RF μ) : RF μ' := hR.cg (fun k j hk _ => by rw [h.2.1 k hk])
/-- what was saved hangs together -/
def SVL (μ : Mm) : Prop := ∃ n p, n ≤ 4 ∧ μ.1 0 2 = nI n ∧ PM μ p
theorem SVL.cg {μ μ' : Mm} (h : SVL μ) (e0 : μ'.1 0 2 = μ.1 0 2) (e4 : μ'.2.1 4 = μ.2.1 4) : SVL μ' := by
  obtain ⟨n, p, h1, h2, h3, h4⟩ := h
  exact ⟨n, p, h1, e0.trans h2, fun j hj => by rw [e4]; exact h3 j hj, h4⟩
theorem l_save {D L C : Nat} {μ : Mm} {f : Nat → Int32} (h : CR D L C μ f) (hs : SVL μ) : ∃ μ', f_X7_save KF μ 0 = some μ' ∧ CR D L C μ' f ∧ SVL μ' ∧ FS μ μ' := by
  obtain ⟨n, p, s1, s2, hp⟩ := hs
  obtain ⟨μ', q, e1, f1, pm, c⟩ := c_save h.1 s1 s2 hp
  have hD := h.2.2.1
  have hL := h.2.2.2.1
  have hC := h.2.2.2.2.1
  refine ⟨μ', e1, ⟨f1.rf h.1, h.2.1.fr ⟨hL.2, hC.2⟩ (fun a ha ha' => f1.1 a (by omega)), h.2.2⟩, ?_, f1⟩
  rcases c with ⟨c0, c1, -⟩ | ⟨c0, c1, -⟩
  · exact ⟨n + 1, q, by omega, c1, pm⟩
  · exact ⟨4, q, by omega, c1, pm⟩
/-- what a wish may change of the class's state -/
def FN (μ μ' : Mm) : Prop := FrI (fun a => 5 ≤ a ∧ a ≤ 34) μ μ'
/-- saved, then done -/
def GR (ν ν' : Mm) : Prop := SVL ν' ∧ (∀ a, 139 ≤ a → ν'.1 a = ν.1 a) ∧ ν'.1 1 1 = ν.1 1 1
theorem grant {D L C D' L' C' : Nat} {ν : Mm} {f g : Nat → Int32} {v : Int32} (h : CR D L C ν f) (hs : SVL ν) {act : Mm → Option (Int32 × Mm)}
    (k : ∀ ν1, CR D L C ν1 f → (∀ a, 139 ≤ a → ν1.1 a = ν.1 a) → ∃ ν2, act ν1 = some (v, ν2) ∧ CR D' L' C' ν2 g ∧ FN ν1 ν2) :
    ∃ ν1 ν2, f_X7_save KF ν 0 = some ν1 ∧ RF ν1 ∧ act ν1 = some (v, ν2) ∧ CR D' L' C' ν2 g ∧ GR ν ν2 := by
  obtain ⟨ν1, e1, h1, s1, f1⟩ := l_save h hs
  obtain ⟨ν2, e2, h2, f2⟩ := k ν1 h1 (fun a ha => f1.1 a (by omega))
  have m1 : ∀ a, ¬ (5 ≤ a ∧ a ≤ 34) → ν2.1 a = ν1.1 a := fun a ha => f2.2 a ha
  refine ⟨ν1, ν2, e1, h1.1, e2, h2, s1.cg (by rw [m1 0 (by omega)]) (by rw [f2.1]), fun a ha => by rw [m1 a (by omega), f1.1 a (by omega)], ?_⟩
  rw [m1 1 (by omega), f1.1 1 (by omega)]
theorem GR.trans {a b c : Mm} (h : GR a b) (h' : GR b c) : GR a c := ⟨h'.1, fun q hq => (h'.2.1 q hq).trans (h.2.1 q hq), h'.2.2.trans h.2.2⟩
end PureSave
