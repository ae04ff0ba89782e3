/-! PURE: a new head, a new label -/
section PureOpsD
theorem c_renewAll {μ : Mm} (hR : RF μ) (v : Int32) : ∃ μ', f_X3_renewAll KF μ 10 v = some μ' ∧ FrI (fun a => 10 ≤ a ∧ a ≤ 13) μ μ' ∧ (μ'.1 10 0 = v ∧ μ'.1 10 1 = μ.1 10 1) ∧ ∀ d, d < 24 → μ'.1 11 d = 0 ∧ μ'.1 12 d = 0 ∧ μ'.1 13 d = 0 := by
  let μ1 := sI μ 10 0 v
  have f1 : FrI (fun a => 10 ≤ a ∧ a ≤ 13) μ μ1 := FrI.rfl.sI ⟨by omega, by omega⟩
  have hR1 : RF μ1 := hR.fr f1
  obtain ⟨w, e, q1, q2, q3⟩ := lp0 (fun n d ν => f_X3_renewAll_l7 KF 10 n ν (nI d)) 24 (by decide)
    (fun d ν => FrI (fun a => 10 ≤ a ∧ a ≤ 13) μ1 ν ∧ ν.1 10 = μ1.1 10 ∧ ∀ x, x < d → ν.1 11 x = 0 ∧ ν.1 12 x = 0 ∧ ν.1 13 x = 0)
    (fun ν => FrI (fun a => 10 ≤ a ∧ a ≤ 13) μ1 ν ∧ ν.1 10 = μ1.1 10 ∧ ∀ x, x < 24 → ν.1 11 x = 0 ∧ ν.1 12 x = 0 ∧ ν.1 13 x = 0)
    (by
      rintro n d ν hd ⟨p1, p2, p3⟩
      have hRν := hR1.fr p1
      have er : f_X3_renew KF ν 10 (nI d) = some (sI (sI (sI ν 11 d 0) 12 d 0) 13 d 0) := by
        unfold f_X3_renew
        simp (disch := omega) only [r_102 hRν, r_103 hRν, r_104 hRν, rf_sI, bd_s, l1_s, K11, K12, K13, gd_n, ix_n]
      refine Or.inr ⟨sI (sI (sI ν 11 d 0) 12 d 0) 13 d 0, ?_, ((p1.sI ⟨by omega, by omega⟩).sI ⟨by omega, by omega⟩).sI ⟨by omega, by omega⟩, ?_, fun x hx => ?_⟩
      · simp (disch := omega) only [f_X3_renewAll_l7, L24, leN, if_neg (Nat.not_le.mpr hd), er, bd_s, l1_s, nI_succ d]
      · rw [sI_rw (by omega), sI_rw (by omega), sI_rw (by omega)]
        exact p2
      · by_cases e : x = d
        · subst e
          simp (disch := omega) only [sI_no, sI_at]
          exact ⟨trivial, trivial, trivial⟩
        · simp (disch := omega) only [sI_no, sI_of]
          exact p3 x (by omega))
    (by
      rintro n ν pq
      refine ⟨ν, ?_, pq⟩
      simp (disch := omega) only [f_X3_renewAll_l7, L24, leN, if_pos (Nat.le_refl 24)]) μ1 ⟨FrI.rfl, rfl, fun x hx => absurd hx (by omega)⟩
  refine ⟨w, ?_, f1.trans q1, ⟨?_, ?_⟩, q3⟩
  · unfold f_X3_renewAll
    rw [l1_s, show f_X3_renewAll_l7 KF 10 FU (sI μ 10 0 v) 0 = some w from e]
    rfl
  · rw [q2]
    exact sI_at
  · rw [q2]
    exact sI_of (by omega)
variable {D L C : Nat} {ν : Mm} {f g : Nat → Int32}
theorem a_begin {n : Nat} (h : CR D L C ν f) (n1 : 4 ≤ n) (n2 : n ≤ 24) (k : ∀ j, j < 146 → j ≠ 0 → (j < 14 ∨ 86 ≤ j) → g j = f j) (g00 : g 0 = nI n) (gd0 : ∀ d, 14 ≤ d → d < 86 → g d = 0) (gk : ∀ c, c < C → g (146 + 6 * c) = -1 ∧ g (146 + 6 * c + 1) = -1) (gj : ∀ c j, c < C → 2 ≤ j → j < 6 → g (146 + 6 * c + j) = f (146 + 6 * c + j)) :
    ∃ ν', f_X5_newHead KF ν 9 (nI n) = some (Sm (fun d => f (14 + 3 * d + 1)) D, ν') ∧ CR n L C ν' g ∧ FN ν ν' := by
  have aw := c_allWear h
  obtain ⟨hR, hc, hw⟩ := h
  have hD := hw.1
  have hL := hw.2.1
  have hC := hw.2.2.1
  generalize hv : Sm (fun d => f (14 + 3 * d + 1)) D = v at aw
  obtain ⟨μ2, y1, y2, ⟨y3, y3'⟩, y4⟩ := c_renewAll hR (nI n)
  have hR21 := hR.fr y2
  have q : ∀ x, ¬ (10 ≤ x ∧ x ≤ 13) → μ2.1 x = ν.1 x := fun x hx => y2.2 x hx
  have e6 : μ2.1 9 6 = nI C := by rw [q 9 (by omega)]; exact hc.2.2.2.1.2.1.trans hC.1
  obtain ⟨μ3, w1, w2, w3⟩ := lp0 (fun m k ν => f_X5_newHead_l15 KF 9 v m ν (nI k)) C (by unfold FU; omega)
    (fun i ν => FrI (fun a => 29 ≤ a ∧ a ≤ 34) μ2 ν ∧ ∀ k, k < 6 → (k < i → ν.1 (29 + k) 0 = -1 ∧ ν.1 (29 + k) 1 = -1) ∧ (i ≤ k → ν.1 (29 + k) = μ2.1 (29 + k)) ∧ ∀ j, 2 ≤ j → ν.1 (29 + k) j = μ2.1 (29 + k) j)
    (fun ν => FrI (fun a => 29 ≤ a ∧ a ≤ 34) μ2 ν ∧ ∀ k, k < 6 → (k < C → ν.1 (29 + k) 0 = -1 ∧ ν.1 (29 + k) 1 = -1) ∧ (C ≤ k → ν.1 (29 + k) = μ2.1 (29 + k)) ∧ ∀ j, 2 ≤ j → ν.1 (29 + k) j = μ2.1 (29 + k) j)
    (by
      rintro m i ν hi ⟨p1, p2⟩
      have hRν := hR21.fr p1
      have e9 : ν.1 9 6 = nI C := by rw [p1.2 9 (by intro h; have h : 29 ≤ 9 ∧ 9 ≤ 34 := h; omega)]; exact e6
      refine Or.inr ⟨sI (sI ν (29 + i) 0 (-1)) (29 + i) 1 (-1), ?_, (p1.sI ⟨by omega, by omega⟩).sI ⟨by omega, by omega⟩, fun k hk => ⟨fun hk' => ?_, fun hk' => ?_, fun j hj => ?_⟩⟩
      · simp (disch := omega) only [f_X5_newHead_l15, f_X2_rentNothing, e9, leN, if_neg (Nat.not_le.mpr hi), r_95 hRν, bd_s, l1_s, K16, gd_n, ix_n, r_cus hRν (show i < 6 by omega), nI_succ i]
      · by_cases e : k = i
        · subst e
          simp (disch := omega) only [sI_of, sI_at]
          exact ⟨trivial, trivial⟩
        · rw [sI_rw (by omega), sI_rw (by omega)]
          exact (p2 k hk).1 (by omega)
      · rw [sI_rw (by omega), sI_rw (by omega)]
        exact (p2 k hk).2.1 (by omega)
      · by_cases e : k = i
        · subst e
          rw [sI_of (by omega), sI_of (by omega)]
          exact (p2 k hk).2.2 j hj
        · rw [sI_rw (by omega), sI_rw (by omega)]
          exact (p2 k hk).2.2 j hj)
    (by
      rintro m ν ⟨p1, p2⟩
      have e9 : ν.1 9 6 = nI C := by rw [p1.2 9 (by intro h; have h : 29 ≤ 9 ∧ 9 ≤ 34 := h; omega)]; exact e6
      refine ⟨ν, ?_, p1, p2⟩
      simp (disch := omega) only [f_X5_newHead_l15, e9, leN, if_pos (Nat.le_refl C)]) μ2 ⟨FrI.rfl, fun k _ => ⟨fun hk => absurd hk (by omega), fun _ => rfl, fun _ _ => rfl⟩⟩
  have q3 : ∀ x, ¬ (29 ≤ x ∧ x ≤ 34) → μ3.1 x = μ2.1 x := fun x hx => w2.2 x hx
  have hp0 : Cpl μ2 9 (fun j => if j = 0 then nI n else if j < 14 then f j else if j < 86 then 0 else f j) n L C := hc.dots ⟨hL.2, hC.2⟩ (fun a ha _ => q a (by omega)) ⟨by rw [q _ (by omega)], by rw [q _ (by omega)]⟩ (fun j _ hj => by
      show (if j = 0 then nI n else if j < 14 then f j else if j < 86 then 0 else f j) = _
      rw [if_neg (by omega)]
      by_cases t : j < 14
      · rw [if_pos t]
      · rw [if_neg t, if_neg (by omega)]) ⟨y3, by
      show _ = (if 10 = 0 then nI n else if 10 < 14 then f 10 else if 10 < 86 then 0 else f 10)
      rw [if_neg (by omega), if_pos (by omega), y3']
      exact hc.1.2⟩ (by
      show _ = (if 13 = 0 then nI n else if 13 < 14 then f 13 else if 13 < 86 then 0 else f 13)
      rw [if_neg (by omega), if_pos (by omega), q 9 (by omega)]
      exact hc.2.2.2.1.2.2) (fun d hd => by
      obtain ⟨t1, t2, t3⟩ := y4 d (by omega)
      simp (disch := omega) only [if_neg (show ¬ 14 + 3 * d = 0 by omega), if_neg (show ¬ 14 + 3 * d + 1 = 0 by omega), if_neg (show ¬ 14 + 3 * d + 2 = 0 by omega), if_neg (show ¬ 14 + 3 * d < 14 by omega), if_neg (show ¬ 14 + 3 * d + 1 < 14 by omega), if_neg (show ¬ 14 + 3 * d + 2 < 14 by omega), if_pos (show 14 + 3 * d < 86 by omega), if_pos (show 14 + 3 * d + 1 < 86 by omega), if_pos (show 14 + 3 * d + 2 < 86 by omega)]
      exact ⟨t1, t2, t3⟩)
  refine ⟨μ3, ?_, ⟨hR21.fr w2, hp0.cus ⟨n2, hL.2⟩ (fun a ha ha' => q3 a (by omega)) ⟨by rw [q3 9 (by omega)], by rw [q3 9 (by omega)]⟩ (fun j hj hj' => ?_) ?_ (fun c hk j hj => ?_) (fun c hk hk' => ?_), ?_⟩, (y2.mono (fun a ha => ⟨by have := ha.1; omega, by have := ha.2; omega⟩)).trans (w2.mono (fun a ha => ⟨by have := ha.1; omega, by have := ha.2; omega⟩))⟩
  · unfold f_X5_newHead
    rw [aw, bd_s, r_90 hR, bd_s, y1, bd_s, show f_X5_newHead_l15 KF 9 v FU μ2 0 = some μ3 from w1]
    rfl
  · show _ = (if j = 0 then nI n else if j < 14 then f j else if j < 86 then 0 else f j)
    by_cases e : j = 0
    · subst e
      rw [g00]
      rfl
    · rw [if_neg e]
      by_cases t : j < 14
      · rw [if_pos t]
        exact k j hj e (Or.inl t)
      · rw [if_neg t]
        by_cases t2 : j < 86
        · rw [if_pos t2]
          exact gd0 j (by omega) t2
        · rw [if_neg t2]
          exact k j hj e (by omega)
  · rw [q3 9 (by omega), e6, k 9 (by omega) (by omega) (by omega)]
    exact hC.1.symm
  · obtain ⟨t1, t2, t3⟩ := w3 c (by omega)
    by_cases e0 : j = 0
    · subst e0
      exact (t1 hk).1.trans (gk c hk).1.symm
    · by_cases e1 : j = 1
      · subst e1
        exact (t1 hk).2.trans (gk c hk).2.symm
      · rw [t3 j (by omega), q _ (by omega), gj c j hk (by omega) hj]
        exact cpl_cus hc hk hj
  · obtain ⟨t1, t2, t3⟩ := w3 c hk'
    rw [t2 hk, q _ (by omega)]
    exact hc.2.2.2.2.2.2.2 c hk hk'
  · obtain ⟨-, -, -, p4, -, p6, -, -, p9, p10⟩ := hw
    refine ⟨⟨g00, n1, n2⟩, ⟨by rw [k 8 (by omega) (by omega) (by omega)]; exact hL.1, hL.2⟩, ⟨by rw [k 9 (by omega) (by omega) (by omega)]; exact hC.1, hC.2⟩, ?_, fun d hd => ?_, PLb.cong hL.2 (fun l r _ _ => k _ (by omega) (by omega) (by omega)) p6, fun c hk => Or.inl (gk c hk), fun j c d hj hk hd r r' => absurd (gk j hj).1 r.1, ?_, ?_⟩
    · rw [k 1 (by omega) (by omega) (by omega), k 2 (by omega) (by omega) (by omega), k 3 (by omega) (by omega) (by omega), k 4 (by omega) (by omega) (by omega), k 5 (by omega) (by omega) (by omega), k 6 (by omega) (by omega) (by omega), k 7 (by omega) (by omega) (by omega)]
      exact p4
    · rw [gd0 _ (by omega) (by omega), gd0 _ (by omega) (by omega)]
      exact ⟨⟨0, by omega, by omega, rfl⟩, ⟨0, by omega, by omega, rfl⟩⟩
    · rw [sumL.cong (fun l _ => k _ (by omega) (by omega) (by omega)) L hL.2, k 11 (by omega) (by omega) (by omega)]
      exact p9
    · rw [sumL.cong (fun l _ => k _ (by omega) (by omega) (by omega)) L hL.2, k 12 (by omega) (by omega) (by omega)]
      exact p10
theorem o_begins {n : Nat} (h : CR D L C ν f) (hs : SVL ν) (n1 : 4 ≤ n) (n2 : n ≤ 24) (k : ∀ j, j < 146 → j ≠ 0 → (j < 14 ∨ 86 ≤ j) → g j = f j) (g00 : g 0 = nI n) (gd0 : ∀ d, 14 ≤ d → d < 86 → g d = 0) (gk : ∀ c, c < C → g (146 + 6 * c) = -1 ∧ g (146 + 6 * c + 1) = -1) (gj : ∀ c j, c < C → 2 ≤ j → j < 6 → g (146 + 6 * c + j) = f (146 + 6 * c + j)) :
    ∃ ν', f_L_begins KF ν 0 (nI n) = some (Sm (fun d => f (14 + 3 * d + 1)) D, ν') ∧ CR n L C ν' g ∧ GR ν ν' := by
  have e0 : f_X5_whyNotNewHead 9 (nI n) = some 0 := by
    unfold f_X5_whyNotNewHead
    rw [if_neg (show ¬ nI n < 4 from nI_nlt (b := 4) (by omega) (by omega)), if_pos (show nI n ≤ 24 from nI_le (b := 24) n2 (by omega))]
    rfl
  obtain ⟨ν1, ν2, e1, r1, e2, h2, g2⟩ := grant h hs (act := fun ν => f_X5_newHead KF ν 9 (nI n)) (fun ν1 h1 _ => a_begin h1 n1 n2 k g00 gd0 gk gj)
  refine ⟨ν2, ?_, h2, g2⟩
  have e2 : f_X5_newHead KF ν1 9 (nI n) = some (Sm (fun d => f (14 + 3 * d + 1)) D, ν2) := e2
  unfold f_L_begins f_X7_begin
  rw [r_03 h.1, bd_s, e0, bd_s, ref0, bd_s, e1, bd_s, r_03 r1, bd_s, e2]
  rfl
theorem w_label {w bk : Nat} (h : CR D L C ν f) (w1 : 1 ≤ w) (w2 : w ≤ 12) (b1 : 1 ≤ bk) (b2 : bk ≤ 9) : f_X5_whyNotNewLabel KF ν 9 (nI w) (nI bk) = some (if L < 6 then 0 else 3) := by
  have hL := h.2.2.2.1
  have e4 : ν.1 9 4 = nI L := h.2.1.2.2.2.1.1.trans hL.1
  unfold f_X5_whyNotNewLabel
  rw [if_neg (show ¬ nI w < 1 from nI_nlt (b := 1) (by omega) (by omega)), if_neg (show ¬ 12 < nI w from nI_nlt (a := 12) (by omega) (by omega)), if_neg (show ¬ nI bk < 1 from nI_nlt (b := 1) (by omega) (by omega)), if_pos (show nI bk ≤ 9 from nI_le (b := 9) (by omega) (by omega)), e4, l1_s]
  simp (disch := omega) only [L6, ltN]
theorem a_label {w bk : Nat} (h : CR D L C ν f) (hL6 : L < 6) (w1 : 1 ≤ w) (w2 : w ≤ 12) (b1 : 1 ≤ bk) (b2 : bk ≤ 9) (nn : ∀ j, j < 182 → j ≠ 8 → (j < 86 + 10 * L ∨ 86 + 10 * L + 10 ≤ j) → g j = f j) (n8 : g 8 = nI (L + 1)) (n0 : g (86 + 10 * L) = nI w) (n1 : g (86 + 10 * L + 1) = nI bk) (n2 : ∀ j, 2 ≤ j → j < 10 → g (86 + 10 * L + j) = 0) :
    ∃ ν', f_X5_newLabel KF ν 9 (nI w) (nI bk) = some (nI L, ν') ∧ CR D (L + 1) C ν' g ∧ FN ν ν' := by
  obtain ⟨hR, hc, hw⟩ := h
  have hD := hw.1
  have hC := hw.2.2.1
  have e41 : ν.1 9 4 = nI L := hc.2.2.2.1.1.trans hw.2.1.1
  have p6 := hc.2.2.2.2.2.1 L (Nat.le_refl L) (by omega)
  refine ⟨sI (sI (sI ν (17 + 2 * L) 0 (nI w)) (17 + 2 * L) 1 (nI bk)) 9 4 (nI (L + 1)), ?_, ⟨RF.sI (RF.sI (RF.sI hR)), hc.lab ⟨hD.2.2, hC.2⟩ (fun x hx => by rw [sI_rw (by omega), sI_rw (by omega), sI_rw (by omega)]) ⟨by simp (disch := omega) only [sI_of, sI_no], by simp (disch := omega) only [sI_of, sI_no]⟩ (fun j hj' hj hj8 _ _ => nn j hj' hj8 (by omega)) ?_ (fun l hl => ?_) (fun l hl hl6 => ?_), hw.lab (fun j hj' hj hj8 _ _ => nn j hj' hj8 (by omega)) n8 (by omega) (fun l hl => ?_) ?_ ?_⟩, ((FrI.rfl.sI ⟨by omega, by omega⟩).sI ⟨by omega, by omega⟩).sI ⟨by omega, by omega⟩⟩
  · unfold f_X5_newLabel
    simp (disch := omega) only [r_93 hR, rf_sI, bd_s, l1_s, e41, K15, gd_n, ix_n, r_lab hR (show L < 6 by omega), sI_no, sI_at, nI_1, nI_pred]
  · rw [sI_at, n8]
  · by_cases e : l = L
    · subst e
      refine ⟨?_, fun r hr => ?_⟩
      · simp (disch := omega) only [sI_no, sI_of, sI_at]
        exact ⟨n0.symm, n1.symm, p6.1.1.trans (n2 8 (by omega) (by omega)).symm, p6.1.2.trans (n2 9 (by omega) (by omega)).symm⟩
      · simp (disch := omega) only [sI_no]
        exact (p6.2 r hr).trans (n2 (2 + r) (by omega) (by omega)).symm
    · refine ⟨?_, fun r hr => ?_⟩
      · simp (disch := omega) only [sI_no, nn]
        exact cpl_lab hc (by omega)
      · simp (disch := omega) only [sI_no, nn]
        exact cpl_row hc (by omega) hr
  · simp (disch := omega) only [sI_no]
    exact hc.2.2.2.2.2.1 l (by omega) hl6
  · by_cases e : l = L
    · subst e
      exact ⟨⟨w, w1, w2, n0, fun r hr => ⟨0, by omega, by omega, n2 (2 + r) (by omega) (by omega)⟩⟩, ⟨bk, b1, b2, n1⟩⟩
    · obtain ⟨⟨x, y1, y2, y3, y4⟩, y⟩ := hw.2.2.2.2.2.1 l (by omega)
      exact ⟨⟨x, y1, y2, by rw [nn _ (by omega) (by omega) (by omega)]; exact y3, fun r hr => by rw [nn _ (by omega) (by omega) (by omega)]; exact y4 r hr⟩, by rw [nn _ (by omega) (by omega) (by omega)]; exact y⟩
  · show sumL g 8 L + g (86 + 10 * L + 8) = _
    have es : sumL g 8 L = sumL f 8 L := by
      rw [sumL_Sm, sumL_Sm]
      exact Sm_cong (fun d hd => nn _ (by omega) (by omega) (by omega))
    rw [es, n2 8 (by omega) (by omega), nn 11 (by omega) (by omega) (by omega), Int32.add_zero]
    exact hw.2.2.2.2.2.2.2.2.1
  · show sumL g 9 L + g (86 + 10 * L + 9) = _
    have es : sumL g 9 L = sumL f 9 L := by
      rw [sumL_Sm, sumL_Sm]
      exact Sm_cong (fun d hd => nn _ (by omega) (by omega) (by omega))
    rw [es, n2 9 (by omega) (by omega), nn 12 (by omega) (by omega) (by omega), Int32.add_zero]
    exact hw.2.2.2.2.2.2.2.2.2
theorem o_labels {w bk : Nat} (h : CR D L C ν f) (hs : SVL ν) (hL6 : L < 6) (w1 : 1 ≤ w) (w2 : w ≤ 12) (b1 : 1 ≤ bk) (b2 : bk ≤ 9) (nn : ∀ j, j < 182 → j ≠ 8 → (j < 86 + 10 * L ∨ 86 + 10 * L + 10 ≤ j) → g j = f j) (n8 : g 8 = nI (L + 1)) (n0 : g (86 + 10 * L) = nI w) (n1 : g (86 + 10 * L + 1) = nI bk) (n2 : ∀ j, 2 ≤ j → j < 10 → g (86 + 10 * L + j) = 0) :
    ∃ ν', f_L_labels KF ν 0 (nI w) (nI bk) = some (nI L, ν') ∧ CR D (L + 1) C ν' g ∧ GR ν ν' := by
  have e0 := w_label h w1 w2 b1 b2
  rw [if_pos hL6] at e0
  obtain ⟨ν1, ν2, e1, r1, e2, h2, g2⟩ := grant h hs (act := fun ν => f_X5_newLabel KF ν 9 (nI w) (nI bk)) (fun ν1 h1 _ => a_label h1 hL6 w1 w2 b1 b2 nn n8 n0 n1 n2)
  refine ⟨ν2, ?_, h2, g2⟩
  have e2 : f_X5_newLabel KF ν1 9 (nI w) (nI bk) = some (nI L, ν2) := e2
  unfold f_L_labels f_X7_addLabel
  rw [r_03 h.1, bd_s, e0, bd_s, ref0, bd_s, e1, bd_s, r_03 r1, bd_s, e2]
  rfl
theorem x_labels3 (h : CR D L C ν f) (hL : L = 6) : fx_X7_addLabel KF ν 0 1 1 = some (3, ν) := by
  have e0 : f_X5_whyNotNewLabel KF ν 9 1 1 = some (if L < 6 then 0 else 3) := w_label h (w := 1) (bk := 1) (by omega) (by omega) (by omega) (by omega)
  rw [if_neg (by omega)] at e0
  unfold fx_X7_addLabel
  rw [r_03 h.1, bd_s, e0]
  rfl
theorem x_labels2 (h : CR D L C ν f) : fx_X7_addLabel KF ν 0 13 1 = some (2, ν) := by
  unfold fx_X7_addLabel f_X5_whyNotNewLabel
  rw [r_03 h.1, bd_s, if_neg (show ¬ (13 : Int32) < 1 by decide), if_pos (show (12 : Int32) < 13 by decide)]
  rfl
end PureOpsD
