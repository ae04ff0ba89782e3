/-! PURE: a new head -/
section PureR
theorem c_renewAll {μ : Mm} (hR : RF μ) (v : Int32) : ∃ μ', f_X3_renewAll KF μ 10 v = some μ' ∧ FrI (fun a => 10 ≤ a ∧ a ≤ 13) μ μ' ∧ (μ'.1 10 0 = v ∧ μ'.1 10 1 = μ.1 10 1) ∧ ∀ d, d < 24 → μ'.1 11 d = 0 ∧ μ'.1 12 d = 0 ∧ μ'.1 13 d = 0 := by
  let μ1 := sI μ 10 0 v
  have f1 : FrI (fun a => 10 ≤ a ∧ a ≤ 13) μ μ1 := FrI.rfl.sI ⟨by omega, by omega⟩
  have hR1 : RF μ1 := hR.fr f1
  obtain ⟨w, e, q1, q2, q3⟩ := lp0 (fun n d ν => f_X3_renewAll_l7 KF 10 n ν (nI d)) 24 (by decide)
    (fun d ν => FrI (fun a => 10 ≤ a ∧ a ≤ 13) μ1 ν ∧ ν.1 10 = μ1.1 10 ∧ ∀ x, x < d → ν.1 11 x = 0 ∧ ν.1 12 x = 0 ∧ ν.1 13 x = 0)
    (fun ν => FrI (fun a => 10 ≤ a ∧ a ≤ 13) μ1 ν ∧ ν.1 10 = μ1.1 10 ∧ ∀ x, x < 24 → ν.1 11 x = 0 ∧ ν.1 12 x = 0 ∧ ν.1 13 x = 0)
    (by
      rintro n d ν hd ⟨p1, p2, p3⟩
      have hRν := hR1.fr p1
      have er : f_X3_renew KF ν 10 (nI d) = some (sI (sI (sI ν 11 d 0) 12 d 0) 13 d 0) := by
        unfold f_X3_renew
        simp (disch := omega) only [r_102 hRν, r_103 hRν, r_104 hRν, rf_sI, bd_s, l1_s, K11, K12, K13, gd_n, ix_n]
      refine Or.inr ⟨sI (sI (sI ν 11 d 0) 12 d 0) 13 d 0, ?_, ((p1.sI ⟨by omega, by omega⟩).sI ⟨by omega, by omega⟩).sI ⟨by omega, by omega⟩, ?_, fun x hx => ?_⟩
      · simp (disch := omega) only [f_X3_renewAll_l7, L24, leN, if_neg (Nat.not_le.mpr hd), er, bd_s, l1_s, nI_succ d]
      · rw [sI_rw (by omega), sI_rw (by omega), sI_rw (by omega)]
        exact p2
      · by_cases e : x = d
        · subst e
          simp (disch := omega) only [sI_no, sI_at]
          exact ⟨trivial, trivial, trivial⟩
        · simp (disch := omega) only [sI_no, sI_of]
          exact p3 x (by omega))
    (by
      rintro n ν pq
      refine ⟨ν, ?_, pq⟩
      simp (disch := omega) only [f_X3_renewAll_l7, L24, leN, if_pos (Nat.le_refl 24)]) μ1 ⟨FrI.rfl, rfl, fun x hx => absurd hx (by omega)⟩
  refine ⟨w, ?_, f1.trans q1, ⟨?_, ?_⟩, q3⟩
  · unfold f_X3_renewAll
    rw [l1_s, show f_X3_renewAll_l7 KF 10 FU (sI μ 10 0 v) 0 = some w from e]
    rfl
  · rw [q2]
    exact sI_at
  · rw [q2]
    exact sI_of (by omega)
theorem o_begin {D L C : Nat} {μ η : Mm} (h : CR D L C μ η) (a : Int32) : OP D L C η [(2, 1)] (f_X5_whyNotNewHead 9 a) (fun ν => f_X5_newHead KF ν 9 a) (f_X8_begin KF η 139 a) := by
  have bad : f_X5_whyNotNewHead 9 a = some 2 → f_X8_in a 4 24 = some 0 → OP D L C η [(2, 1)] (f_X5_whyNotNewHead 9 a) (fun ν => f_X5_newHead KF ν 9 a) (f_X8_begin KF η 139 a) := fun h1 h2 => Or.inl ⟨(2, 1), List.mem_singleton.mpr rfl, h1, by
    unfold f_X8_begin
    rw [h2, bd_s, i00, l1_s, th1, bd_s, l1_s, l1_s, i10]⟩
  by_cases q1 : a < 4
  · refine bad ?_ (in_lo q1)
    unfold f_X5_whyNotNewHead
    rw [if_pos q1]
    rfl
  by_cases q2 : 24 < a
  · refine bad ?_ (in_hi q2)
    unfold f_X5_whyNotNewHead
    rw [if_neg q1, if_neg (Int32.not_le.mpr q2)]
    rfl
  have hin : f_X8_in a 4 24 = some 1 := in_in q1 q2
  have ew : f_X5_whyNotNewHead 9 a = some 0 := by
    unfold f_X5_whyNotNewHead
    rw [if_neg q1, if_pos (Int32.not_lt.mp q2)]
    rfl
  obtain ⟨n, n1, n2, rfl⟩ : bnd a 4 24 := bnd_of (by omega) q1 (by omega) q2
  refine Or.inr ⟨ew, fun μ1 η1 h1 hs _ => ?_⟩
  have aw := c_allWear h1
  have ms := m_sumOf (j := 1) h1.2.1 h1.2.2.2 (by omega)
  obtain ⟨hR, hR2, hc, hw⟩ := h1
  have hD := hw.1
  have hL := hw.2.1
  have hC := hw.2.2.1
  have hb : bnd (Sm (fun d => η1.1 140 (14 + 3 * d + 1)) D) 0 (D * 9999) := Sm_bnd (fun d hd => (hw.2.2.2.2.1 d hd).2) (by have := hD.2.2; omega)
  generalize hv : Sm (fun d => η1.1 140 (14 + 3 * d + 1)) D = v at aw ms hb
  obtain ⟨μ2, y1, y2, ⟨y3, y3'⟩, y4⟩ := c_renewAll hR (nI n)
  have hR21 := hR.fr y2
  have q : ∀ x, ¬ (10 ≤ x ∧ x ≤ 13) → μ2.1 x = μ1.1 x := fun x hx => y2.2 x hx
  have e6 : μ2.1 9 6 = nI C := by rw [q 9 (by omega)]; exact hc.2.2.2.1.2.1.trans hC.1
  obtain ⟨μ3, w1, w2, w3⟩ := lp0 (fun m k ν => f_X5_newHead_l15 KF 9 v m ν (nI k)) C (by unfold FU; omega)
    (fun i ν => FrI (fun a => 29 ≤ a ∧ a ≤ 34) μ2 ν ∧ ∀ k, k < 6 → (k < i → ν.1 (29 + k) 0 = -1 ∧ ν.1 (29 + k) 1 = -1) ∧ (i ≤ k → ν.1 (29 + k) = μ2.1 (29 + k)) ∧ ∀ j, 2 ≤ j → ν.1 (29 + k) j = μ2.1 (29 + k) j)
    (fun ν => FrI (fun a => 29 ≤ a ∧ a ≤ 34) μ2 ν ∧ ∀ k, k < 6 → (k < C → ν.1 (29 + k) 0 = -1 ∧ ν.1 (29 + k) 1 = -1) ∧ (C ≤ k → ν.1 (29 + k) = μ2.1 (29 + k)) ∧ ∀ j, 2 ≤ j → ν.1 (29 + k) j = μ2.1 (29 + k) j)
    (by
      rintro m i ν hi ⟨p1, p2⟩
      have hRν := hR21.fr p1
      have e9 : ν.1 9 6 = nI C := by rw [p1.2 9 (by intro h; have h : 29 ≤ 9 ∧ 9 ≤ 34 := h; omega)]; exact e6
      refine Or.inr ⟨sI (sI ν (29 + i) 0 (-1)) (29 + i) 1 (-1), ?_, (p1.sI ⟨by omega, by omega⟩).sI ⟨by omega, by omega⟩, fun k hk => ⟨fun hk' => ?_, fun hk' => ?_, fun j hj => ?_⟩⟩
      · simp (disch := omega) only [f_X5_newHead_l15, f_X2_rentNothing, e9, leN, if_neg (Nat.not_le.mpr hi), r_95 hRν, bd_s, l1_s, K16, gd_n, ix_n, r_cus hRν (show i < 6 by omega), nI_succ i]
      · by_cases e : k = i
        · subst e
          simp (disch := omega) only [sI_of, sI_at]
          exact ⟨trivial, trivial⟩
        · rw [sI_rw (by omega), sI_rw (by omega)]
          exact (p2 k hk).1 (by omega)
      · rw [sI_rw (by omega), sI_rw (by omega)]
        exact (p2 k hk).2.1 (by omega)
      · by_cases e : k = i
        · subst e
          rw [sI_of (by omega), sI_of (by omega)]
          exact (p2 k hk).2.2 j hj
        · rw [sI_rw (by omega), sI_rw (by omega)]
          exact (p2 k hk).2.2 j hj)
    (by
      rintro m ν ⟨p1, p2⟩
      have e9 : ν.1 9 6 = nI C := by rw [p1.2 9 (by intro h; have h : 29 ≤ 9 ∧ 9 ≤ 34 := h; omega)]; exact e6
      refine ⟨ν, ?_, p1, p2⟩
      simp (disch := omega) only [f_X5_newHead_l15, e9, leN, if_pos (Nat.le_refl C)]) μ2 ⟨FrI.rfl, fun k _ => ⟨fun hk => absurd hk (by omega), fun _ => rfl, fun _ _ => rfl⟩⟩
  have q3 : ∀ x, ¬ (29 ≤ x ∧ x ≤ 34) → μ3.1 x = μ2.1 x := fun x hx => w2.2 x hx
  obtain ⟨η2, z1, z2, z3, z4⟩ := lp (fun m k ν => f_X8_begin_l37 KF 139 (nI n) v m ν (nI k)) 86
    (fun i ν => 14 ≤ i ∧ FrI (fun a => a = 140) η1 ν ∧ (∀ j, 14 ≤ j → j < i → ν.1 140 j = 0) ∧ ∀ j, (j < 14 ∨ 86 ≤ j) → ν.1 140 j = η1.1 140 j)
    (fun ν => FrI (fun a => a = 140) η1 ν ∧ (∀ j, 14 ≤ j → j < 86 → ν.1 140 j = 0) ∧ ∀ j, (j < 14 ∨ 86 ≤ j) → ν.1 140 j = η1.1 140 j)
    (by
      rintro m i ν hi ⟨p0, p1, p2, p3⟩
      have hRν := hR2.fr p1
      refine Or.inr ⟨sI ν 140 i 0, ?_, by omega, p1.sI rfl, fun j hj hj' => ?_, fun j hj => ?_⟩
      · simp (disch := omega) only [f_X8_begin_l37, L86, leN, if_neg (Nat.not_le.mpr hi), r_m0 hRν, bd_s, l1_s, K140, gd_n, ix_n, nI_succ i]
      · by_cases e : j = i
        · rw [e, sI_at]
        · rw [sI_of e]
          exact p2 j hj (by omega)
      · rw [sI_of (by omega)]
        exact p3 j hj)
    (by
      rintro m ν ⟨-, pq⟩
      refine ⟨ν, ?_, pq⟩
      simp (disch := omega) only [f_X8_begin_l37, L86, leN, if_pos (Nat.le_refl 86)]) 72 14 η1 FU (by omega) (by decide) ⟨Nat.le_refl 14, FrI.rfl, fun j hj hj' => absurd hj (by omega), fun _ _ => rfl⟩
  have hR22 := hR2.fr z2
  have c9 : η2.1 140 9 = nI C := by rw [z4 9 (by omega)]; exact hC.1
  obtain ⟨η3, x1, x2, x3, x4⟩ := lp0 (fun m k ν => f_X8_begin_l58 KF 139 (nI n) v m ν (nI k)) C (by unfold FU; omega)
    (fun i ν => FrI (fun a => a = 140) η2 ν ∧ (∀ k, k < i → ν.1 140 (146 + 6 * k) = -1 ∧ ν.1 140 (146 + 6 * k + 1) = -1) ∧ ∀ j, (∀ k, k < C → j ≠ 146 + 6 * k ∧ j ≠ 146 + 6 * k + 1) → ν.1 140 j = η2.1 140 j)
    (fun ν => FrI (fun a => a = 140) η2 ν ∧ (∀ k, k < C → ν.1 140 (146 + 6 * k) = -1 ∧ ν.1 140 (146 + 6 * k + 1) = -1) ∧ ∀ j, (∀ k, k < C → j ≠ 146 + 6 * k ∧ j ≠ 146 + 6 * k + 1) → ν.1 140 j = η2.1 140 j)
    (by
      rintro m i ν hi ⟨p1, p2, p3⟩
      have hRν := hR22.fr p1
      have e9 : ν.1 140 9 = nI C := by rw [p3 9 (fun k _ => by omega)]; exact c9
      refine Or.inr ⟨sI (sI ν 140 (146 + 6 * i) (-1)) 140 (146 + 6 * i + 1) (-1), ?_, (p1.sI rfl).sI rfl, fun k hk => ?_, fun j hj => ?_⟩
      · simp (disch := omega) only [f_X8_begin_l58, f_X8_frees, L9, L146, L6, L0, r_m0 hRν, rf_sI, bd_s, l1_s, K140, gd_n, ix_n, e9, leN, if_neg (Nat.not_le.mpr hi), nI_add, pk_mul, nI_1, Nat.add_zero]
      · by_cases e : k = i
        · subst e
          simp (disch := omega) only [sI_of, sI_at]
          exact ⟨trivial, trivial⟩
        · simp (disch := omega) only [sI_of]
          exact p2 k (by omega)
      · obtain ⟨j1, j2⟩ := hj i hi
        rw [sI_of j2, sI_of j1]
        exact p3 j hj)
    (by
      rintro m ν ⟨p1, p2, p3⟩
      have hRν := hR22.fr p1
      have e9 : ν.1 140 9 = nI C := by rw [p3 9 (fun k _ => by omega)]; exact c9
      refine ⟨ν, ?_, p1, p2, p3⟩
      simp (disch := omega) only [f_X8_begin_l58, L9, r_m0 hRν, bd_s, K140, gd_n, ix_n, e9, leN, if_pos (Nat.le_refl C)]) η2 ⟨FrI.rfl, fun k hk => absurd hk (by omega), fun _ _ => rfl⟩
  have hR23 := hR22.fr x2
  have gg : ∀ j, j < 146 → j ≠ 0 → (sI η3 140 0 (nI n)).1 140 j = η2.1 140 j := fun j hj hj' => by rw [sI_of hj']; exact x4 j (fun k _ => by omega)
  have g0 : ∀ d, 14 ≤ d → d < 86 → (sI η3 140 0 (nI n)).1 140 d = 0 := fun d hd hd' => by rw [gg d (by omega) (by omega)]; exact z3 d hd hd'
  have gk : ∀ k, k < C → (sI η3 140 0 (nI n)).1 140 (146 + 6 * k) = -1 ∧ (sI η3 140 0 (nI n)).1 140 (146 + 6 * k + 1) = -1 := fun k hk => by rw [sI_of (by omega), sI_of (by omega)]; exact x3 k hk
  have hp0 : Cpl μ2 9 (fun j => if j = 0 then nI n else η2.1 140 j) n L C := hc.dots ⟨hL.2, hC.2⟩ (fun a ha _ => q a (by omega)) ⟨by rw [q _ (by omega)], by rw [q _ (by omega)]⟩ (fun j _ hj => by
      show (if j = 0 then nI n else η2.1 140 j) = _
      rw [if_neg (by omega)]
      exact z4 j (by omega)) ⟨y3, by
      show _ = (if 10 = 0 then nI n else η2.1 140 10)
      rw [if_neg (by omega), z4 10 (by omega), y3']
      exact hc.1.2⟩ (by
      show _ = (if 13 = 0 then nI n else η2.1 140 13)
      rw [if_neg (by omega), z4 13 (by omega), q 9 (by omega)]
      exact hc.2.2.2.1.2.2) (fun d hd => by
      obtain ⟨t1, t2, t3⟩ := y4 d (by omega)
      show _ = (if 14 + 3 * d = 0 then nI n else η2.1 140 (14 + 3 * d)) ∧ _ = (if 14 + 3 * d + 1 = 0 then nI n else η2.1 140 (14 + 3 * d + 1)) ∧ _ = (if 14 + 3 * d + 2 = 0 then nI n else η2.1 140 (14 + 3 * d + 2))
      rw [if_neg (by omega), if_neg (by omega), if_neg (by omega), z3 _ (by omega) (by omega), z3 _ (by omega) (by omega), z3 _ (by omega) (by omega)]
      exact ⟨t1, t2, t3⟩)
  refine ⟨v, μ3, sI η3 140 0 (nI n), n, L, C, ?_, ?_, ⟨hR21.fr w2, RF.sI hR23, hp0.cus ⟨n2, hL.2⟩ (fun a ha ha' => q3 a (by omega)) ⟨by rw [q3 9 (by omega)], by rw [q3 9 (by omega)]⟩ (fun j hj hj' => ?_) ?_ (fun k hk j hj => ?_) (fun k hk hk' => ?_), ?_⟩, (y2.mono (fun a ha => ⟨by have := ha.1; omega, by have := ha.2; omega⟩)).trans (w2.mono (fun a ha => ⟨by have := ha.1; omega, by have := ha.2; omega⟩)), ((z2.mono (fun a ha => Or.inl ha)).trans (x2.mono (fun a ha => Or.inl ha))).sI (Or.inl rfl), bnd0 hb (by have := hD.2.2; omega)⟩
  · show f_X5_newHead KF μ1 9 (nI n) = _
    unfold f_X5_newHead
    rw [aw, bd_s, r_90 hR, bd_s, y1, bd_s, show f_X5_newHead_l15 KF 9 v FU μ2 0 = some μ3 from w1]
    rfl
  · unfold f_X8_begin
    rw [hin, bd_s, i10, l1_s, th0, bd_s, l1_s, l1_s, i00, hs, bd_s, show f_X8_sumOf KF η1 139 1 = some v from ms, bd_s, show f_X8_begin_l37 KF 139 (nI n) v FU η1 14 = some η2 from z1, bd_s, l1_s, show f_X8_begin_l58 KF 139 (nI n) v FU η2 0 = some η3 from x1, bd_s, l1_s, r_m0 hR23, bd_s]
    rfl
  · show _ = (if j = 0 then nI n else η2.1 140 j)
    by_cases e : j = 0
    · subst e
      rw [sI_at]
      rfl
    · rw [if_neg e]
      exact gg j hj e
  · rw [q3 9 (by omega), e6, gg 9 (by omega) (by omega)]
    exact c9.symm
  · obtain ⟨t1, t2, t3⟩ := w3 k (by omega)
    by_cases e0 : j = 0
    · subst e0
      exact (t1 hk).1.trans (gk k hk).1.symm
    · by_cases e1 : j = 1
      · subst e1
        exact (t1 hk).2.trans (gk k hk).2.symm
      · rw [t3 j (by omega), q _ (by omega), sI_of (by omega), x4 _ (fun k' _ => by omega), z4 _ (by omega)]
        exact cpl_cus hc hk hj
  · obtain ⟨t1, t2, t3⟩ := w3 k hk'
    rw [t2 hk, q _ (by omega)]
    exact hc.2.2.2.2.2.2.2 k hk hk'
  · have e1 : ∀ j, j < 146 → j ≠ 0 → (j < 14 ∨ 86 ≤ j) → (sI η3 140 0 (nI n)).1 140 j = η1.1 140 j := fun j hj hj' hj'' => by rw [gg j hj hj']; exact z4 j (by omega)
    obtain ⟨-, -, -, p4, -, p6, -, -, p9, p10⟩ := hw
    refine ⟨⟨sI_at, n1, n2⟩, ⟨by rw [e1 8 (by omega) (by omega) (by omega)]; exact hL.1, hL.2⟩, ⟨by rw [gg 9 (by omega) (by omega)]; exact c9, hC.2⟩, ?_, fun d hd => ?_, PLb.cong hL.2 (fun l r _ _ => e1 _ (by omega) (by omega) (by omega)) p6, fun k hk => Or.inl (gk k hk), fun j k d hj hk hd r r' => absurd (gk j hj).1 r.1, ?_, ?_⟩
    · rw [e1 1 (by omega) (by omega) (by omega), e1 2 (by omega) (by omega) (by omega), e1 3 (by omega) (by omega) (by omega), e1 4 (by omega) (by omega) (by omega), e1 5 (by omega) (by omega) (by omega), e1 6 (by omega) (by omega) (by omega), e1 7 (by omega) (by omega) (by omega)]
      exact p4
    · rw [g0 _ (by omega) (by omega), g0 _ (by omega) (by omega)]
      exact ⟨⟨0, by omega, by omega, rfl⟩, ⟨0, by omega, by omega, rfl⟩⟩
    · rw [sumL.cong (fun l _ => e1 _ (by omega) (by omega) (by omega)) L hL.2, e1 11 (by omega) (by omega) (by omega)]
      exact p9
    · rw [sumL.cong (fun l _ => e1 _ (by omega) (by omega) (by omega)) L hL.2, e1 12 (by omega) (by omega) (by omega)]
      exact p10
end PureR
