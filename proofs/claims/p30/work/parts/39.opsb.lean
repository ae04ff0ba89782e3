/-! PURE: rows of labels, customers, rents -/
section PureOpsB
theorem cols : ∀ w, w ≤ 12 → ((1 : Int32) <<< (nI w &&& 31)) - 1 = nI (2 ^ w - 1) := by decide +kernel
theorem has_lt {a : Int32} {n : Nat} (hn : n < 1000) (h : has a n = 0) : a < 0 ∨ (¬ a < 0 ∧ nI n ≤ a) := by
  rcases has_no h with q | q
  · exact Or.inl q
  · by_cases q' : a < 0
    · exact Or.inl q'
    · exact Or.inr ⟨q', q⟩
theorem Cpl.cus {μ μ' : Mm} {f g : Nat → Int32} {D L C C' : Nat} (h : Cpl μ 9 f D L C) (hD : D ≤ 24 ∧ L ≤ 6) (e : ∀ a, 10 ≤ a → a ≤ 28 → μ'.1 a = μ.1 a) (e9 : μ'.1 9 4 = μ.1 9 4 ∧ μ'.1 9 7 = μ.1 9 7) (eg : ∀ j, j < 146 → j ≠ 9 → g j = f j) (hc : μ'.1 9 6 = g 9)
    (h1 : ∀ k, k < C' → ∀ j, j < 6 → μ'.1 (29 + k) j = g (146 + 6 * k + j)) (h2 : ∀ k, C' ≤ k → k < 6 → μ'.1 (29 + k) 0 = -1 ∧ μ'.1 (29 + k) 1 = -1 ∧ ∀ j, 2 ≤ j → j < 6 → μ'.1 (29 + k) j = 0) : Cpl μ' 9 g D L C' := by
  obtain ⟨p1, p2, p3, p4, p5, p6, -, -⟩ := h
  refine ⟨?_, fun d hd => ?_, fun j hj => ?_, ⟨?_, hc, ?_⟩, fun l hl => ?_, fun l hl hl' => ?_, h1, h2⟩
  · rw [e _ (by omega) (by omega), eg _ (by omega) (by omega), eg _ (by omega) (by omega)]
    exact p1
  · rw [e (9 + 2) (by omega) (by omega), e (9 + 3) (by omega) (by omega), e (9 + 4) (by omega) (by omega), eg _ (by omega) (by omega), eg _ (by omega) (by omega), eg _ (by omega) (by omega)]
    exact p2 d hd
  · rw [e _ (by omega) (by omega), eg _ (by omega) (by omega)]
    exact p3 j hj
  · rw [e9.1, eg _ (by omega) (by omega)]
    exact p4.1
  · rw [e9.2, eg _ (by omega) (by omega)]
    exact p4.2.2
  · rw [e (9 + 8 + 2 * l) (by omega) (by omega), e (9 + 9 + 2 * l) (by omega) (by omega), eg _ (by omega) (by omega), eg _ (by omega) (by omega), eg _ (by omega) (by omega), eg _ (by omega) (by omega)]
    exact ⟨(p5 l hl).1, fun r hr => by rw [eg _ (by omega) (by omega)]; exact (p5 l hl).2 r hr⟩
  · rw [e (9 + 8 + 2 * l) (by omega) (by omega), e (9 + 9 + 2 * l) (by omega) (by omega)]
    exact p6 l hl hl'
theorem Cpl.lab {μ μ' : Mm} {f g : Nat → Int32} {D L L' C : Nat} (h : Cpl μ 9 f D L C) (hD : D ≤ 24 ∧ C ≤ 6) (e : ∀ a, (10 ≤ a ∧ a ≤ 16 ∨ 29 ≤ a ∧ a ≤ 34) → μ'.1 a = μ.1 a) (e9 : μ'.1 9 6 = μ.1 9 6 ∧ μ'.1 9 7 = μ.1 9 7) (eg : ∀ j, j < 182 → (j < 86 ∨ 146 ≤ j) → j ≠ 8 → j ≠ 11 → j ≠ 12 → g j = f j) (hl : μ'.1 9 4 = g 8)
    (h1 : ∀ l, l < L' → (μ'.1 (17 + 2 * l) 0 = g (86 + 10 * l) ∧ μ'.1 (17 + 2 * l) 1 = g (86 + 10 * l + 1) ∧ μ'.1 (17 + 2 * l) 2 = g (86 + 10 * l + 8) ∧ μ'.1 (17 + 2 * l) 3 = g (86 + 10 * l + 9)) ∧ ∀ r, r < 6 → μ'.1 (18 + 2 * l) r = g (86 + 10 * l + (2 + r)))
    (h2 : ∀ l, L' ≤ l → l < 6 → (μ'.1 (17 + 2 * l) 2 = 0 ∧ μ'.1 (17 + 2 * l) 3 = 0) ∧ ∀ r, r < 6 → μ'.1 (18 + 2 * l) r = 0) : Cpl μ' 9 g D L' C := by
  obtain ⟨p1, p2, p3, p4, -, -, p7, p8⟩ := h
  refine ⟨?_, fun d hd => ?_, fun j hj => ?_, ⟨hl, ?_, ?_⟩, h1, h2, fun k hk j hj => ?_, fun k hk hk' => ?_⟩
  · rw [e _ (by omega), eg _ (by omega) (by omega) (by omega) (by omega) (by omega), eg _ (by omega) (by omega) (by omega) (by omega) (by omega)]
    exact p1
  · rw [e (9 + 2) (by omega), e (9 + 3) (by omega), e (9 + 4) (by omega), eg _ (by omega) (by omega) (by omega) (by omega) (by omega), eg _ (by omega) (by omega) (by omega) (by omega) (by omega), eg _ (by omega) (by omega) (by omega) (by omega) (by omega)]
    exact p2 d hd
  · rw [e _ (by omega), eg _ (by omega) (by omega) (by omega) (by omega) (by omega)]
    exact p3 j hj
  · rw [e9.1, eg _ (by omega) (by omega) (by omega) (by omega) (by omega)]
    exact p4.2.1
  · rw [e9.2, eg _ (by omega) (by omega) (by omega) (by omega) (by omega)]
    exact p4.2.2
  · rw [e _ (by omega), eg _ (by omega) (by omega) (by omega) (by omega) (by omega)]
    exact p7 k hk j hj
  · rw [e (9 + 20 + k) (by omega)]
    exact p8 k hk hk'
theorem WF.cus {f g : Nat → Int32} {D L C C' : Nat} (h : WF f D L C) (e : ∀ j, j < 146 → j ≠ 9 → g j = f j) (e9 : g 9 = nI C') (hC : C' ≤ 6) (h1 : PRn g D C') (h2 : PDj g D C') : WF g D L C' := by
  obtain ⟨⟨p1, p1'⟩, ⟨p2, p2'⟩, -, p4, p5, p6, -, -, p9, p10⟩ := h
  refine ⟨⟨by rw [e _ (by omega) (by omega)]; exact p1, p1'⟩, ⟨by rw [e _ (by omega) (by omega)]; exact p2, p2'⟩, ⟨e9, hC⟩, ?_, fun d hd => by rw [e _ (by omega) (by omega), e _ (by omega) (by omega)]; exact p5 d hd, PLb.cong p2' (fun l r _ _ => e _ (by omega) (by omega)) p6, h1, h2, ?_, ?_⟩
  · rw [e 1 (by omega) (by omega), e 2 (by omega) (by omega), e 3 (by omega) (by omega), e 4 (by omega) (by omega), e 5 (by omega) (by omega), e 6 (by omega) (by omega), e 7 (by omega) (by omega)]
    exact p4
  · rw [sumL.cong (fun l _ => e _ (by omega) (by omega)) L p2', e 11 (by omega) (by omega)]
    exact p9
  · rw [sumL.cong (fun l _ => e _ (by omega) (by omega)) L p2', e 12 (by omega) (by omega)]
    exact p10
theorem WF.lab {f g : Nat → Int32} {D L L' C : Nat} (h : WF f D L C) (e : ∀ j, j < 182 → (j < 86 ∨ 146 ≤ j) → j ≠ 8 → j ≠ 11 → j ≠ 12 → g j = f j) (e8 : g 8 = nI L') (hL : L' ≤ 6) (h1 : PLb g L') (h2 : sumL g 8 L' = g 11) (h3 : sumL g 9 L' = g 12) : WF g D L' C := by
  obtain ⟨⟨p1, p1'⟩, -, ⟨p3, p3'⟩, p4, p5, -, p7, p8, -, -⟩ := h
  refine ⟨⟨by rw [e _ (by omega) (by omega) (by omega) (by omega) (by omega)]; exact p1, p1'⟩, ⟨e8, hL⟩, ⟨by rw [e _ (by omega) (by omega) (by omega) (by omega) (by omega)]; exact p3, p3'⟩, ?_, fun d hd => by rw [e _ (by omega) (by omega) (by omega) (by omega) (by omega), e _ (by omega) (by omega) (by omega) (by omega) (by omega)]; exact p5 d hd, h1, PRn.cong p3' (fun k j _ _ => e _ (by omega) (by omega) (by omega) (by omega) (by omega)) p7, PDj.cong p3' (fun k j _ _ => e _ (by omega) (by omega) (by omega) (by omega) (by omega)) p8, h2, h3⟩
  rw [e 1 (by omega) (by omega) (by omega) (by omega) (by omega), e 2 (by omega) (by omega) (by omega) (by omega) (by omega), e 3 (by omega) (by omega) (by omega) (by omega) (by omega), e 4 (by omega) (by omega) (by omega) (by omega) (by omega), e 5 (by omega) (by omega) (by omega) (by omega) (by omega), e 6 (by omega) (by omega) (by omega) (by omega) (by omega), e 7 (by omega) (by omega) (by omega) (by omega) (by omega)]
  exact p4
variable {D L C : Nat} {ν : Mm} {f g : Nat → Int32}
theorem pows : ∀ w, w ≤ 12 → (1 : Int32) <<< (nI w &&& 31) = nI (2 ^ w) ∧ 1 ≤ 2 ^ w ∧ 2 ^ w ≤ 4096 := by decide +kernel
theorem c_allCols {l w : Nat} (h : CR D L C ν f) (hl : l < L) (ew : f (86 + 10 * l) = nI w) (hw : w ≤ 12) : f_X4_allColumns KF ν (17 + 2 * l) = some (nI (2 ^ w - 1)) := by
  unfold f_X4_allColumns
  rw [(cpl_lab h.2.1 hl).1.trans ew, cols w hw]
theorem w_rows {l r c w : Nat} (h : CR D L C ν f) (hl : l < L) (hr : r < 6) (ew : f (86 + 10 * l) = nI w) (hw : w ≤ 12) (hc : c ≤ 4096) : f_X5_whyNotChangeRow KF ν 9 (nI l) (nI r) (nI c) = some (if 2 ^ w - 1 < c then 2 else 0) := by
  have hL := h.2.2.2.1
  have q1 := has_n hl (show L < 1000 by omega)
  have n6 : ¬ (6 : Int32) ≤ nI r := nI_ge (b := 6) hr (by omega)
  have hp := pows w hw
  unfold f_X5_whyNotChangeRow
  rw [c_hasLabel h, bd_s, q1, i10, if_neg (nI_pos (by omega)), if_neg n6, if_neg (nI_pos (by omega))]
  simp (disch := omega) only [r_93 h.1, bd_s, K15, gd_n, ix_n, r_lab h.1 (show l < 6 by omega), c_allCols h hl ew hw, l1_s, ltN]
  by_cases t : 2 ^ w - 1 < c
  · simp only [if_pos t, if_true]
  · simp only [if_neg t, i10]
theorem a_row {l r c w : Nat} (h : CR D L C ν f) (hl : l < L) (hr : r < 6) (ew : f (86 + 10 * l) = nI w) (hw : w ≤ 12) (hc : c < 2 ^ w) (k : ∀ i, i < 182 → i ≠ 86 + 10 * l + (2 + r) → g i = f i) (ga : g (86 + 10 * l + (2 + r)) = nI c) :
    ∃ ν', f_X5_changeRow KF ν 9 (nI l) (nI r) (nI c) = some (f (86 + 10 * l + (2 + r)), ν') ∧ CR D L C ν' g ∧ FN ν ν' := by
  obtain ⟨hR, hc', hwf⟩ := h
  have hD := hwf.1
  have hL := hwf.2.1
  have hC := hwf.2.2.1
  have hp := pows w hw
  have hrow := cpl_row hc' hl hr
  refine ⟨sI ν (18 + 2 * l) r (nI c), ?_, ⟨hR, hc'.lab ⟨hD.2.2, hC.2⟩ (fun x hx => sI_rw (by omega)) ⟨sI_no (by omega), sI_no (by omega)⟩ (fun j _ hj _ _ _ => k j (by omega) (by omega)) ?_ (fun l' hl' => ⟨?_, fun r' hr' => ?_⟩) (fun l' hl' hl6 => ?_), hwf.lab (fun j _ hj _ _ _ => k j (by omega) (by omega)) (by rw [k _ (by omega) (by omega)]; exact hwf.2.1.1) hL.2 (fun l' hl' => ?_) ?_ ?_⟩, FrI.rfl.sI (by constructor <;> omega)⟩
  · unfold f_X5_changeRow
    simp (disch := omega) only [r_93 hR, bd_s, l1_s, K15, gd_n, ix_n, r_lab hR (show l < 6 by omega), r_row hR (show l < 6 by omega), K_row l (by omega), hrow]
  · rw [sI_no (by omega), k _ (by omega) (by omega)]
    exact hc'.2.2.2.1.1
  · simp (disch := omega) only [sI_no, k]
    exact cpl_lab hc' hl'
  · by_cases e : l' = l
    · subst e
      by_cases e' : r' = r
      · subst e'
        rw [sI_at, ga]
      · rw [sI_of e', k _ (by omega) (by omega)]
        exact cpl_row hc' hl' hr'
    · rw [sI_no (by omega), k _ (by omega) (by omega)]
      exact cpl_row hc' hl' hr'
  · simp (disch := omega) only [sI_no]
    exact hc'.2.2.2.2.2.1 l' hl' hl6
  · obtain ⟨⟨x, x1, x2, x3, x4⟩, y⟩ := hwf.2.2.2.2.2.1 l' hl'
    refine ⟨⟨x, x1, x2, by rw [k _ (by omega) (by omega)]; exact x3, fun r' hr' => ?_⟩, by rw [k _ (by omega) (by omega)]; exact y⟩
    by_cases e : l' = l ∧ r' = r
    · obtain ⟨rfl, rfl⟩ := e
      rw [ga]
      rw [ew] at x3
      rw [eqN (by omega) (by omega)] at x3
      subst x3
      exact ⟨c, by omega, by omega, rfl⟩
    · rw [k _ (by omega) (by omega)]
      exact x4 r' hr'
  · rw [sumL_Sm, Sm_cong (fun i hi => k (86 + 10 * i + 8) (by omega) (by omega)), ← sumL_Sm, k _ (by omega) (by omega)]
    exact hwf.2.2.2.2.2.2.2.2.1
  · rw [sumL_Sm, Sm_cong (fun i hi => k (86 + 10 * i + 9) (by omega) (by omega)), ← sumL_Sm, k _ (by omega) (by omega)]
    exact hwf.2.2.2.2.2.2.2.2.2
theorem o_rows {l r c w : Nat} (h : CR D L C ν f) (hs : SVL ν) (hl : l < L) (hr : r < 6) (ew : f (86 + 10 * l) = nI w) (hw : w ≤ 12) (hc : c < 2 ^ w) (k : ∀ i, i < 182 → i ≠ 86 + 10 * l + (2 + r) → g i = f i) (ga : g (86 + 10 * l + (2 + r)) = nI c) :
    ∃ ν', f_L_rows KF ν 0 (nI l) (nI r) (nI c) = some (f (86 + 10 * l + (2 + r)), ν') ∧ CR D L C ν' g ∧ GR ν ν' := by
  have hp := pows w hw
  have e0 := w_rows h hl hr ew hw (c := c) (by omega)
  rw [if_neg (by omega)] at e0
  obtain ⟨ν1, ν2, e1, r1, e2, h2, g2⟩ := grant h hs (act := fun ν => f_X5_changeRow KF ν 9 (nI l) (nI r) (nI c)) (fun ν1 h1' _ => a_row h1' hl hr ew hw hc k ga)
  refine ⟨ν2, ?_, h2, g2⟩
  have e2 : f_X5_changeRow KF ν1 9 (nI l) (nI r) (nI c) = some (f (86 + 10 * l + (2 + r)), ν2) := e2
  unfold f_L_rows f_X7_setRow
  rw [r_03 h.1, bd_s, e0, bd_s, ref0, bd_s, e1, bd_s, r_03 r1, bd_s, e2]
  rfl
theorem x_rows2 {l r w : Nat} (h : CR D L C ν f) (hl : l < L) (hr : r < 6) (ew : f (86 + 10 * l) = nI w) (hw : w ≤ 12) : fx_X7_setRow KF ν 0 (nI l) (nI r) (nI (2 ^ w)) = some (2, ν) := by
  have hp := pows w hw
  have e0 := w_rows h hl hr ew hw (c := 2 ^ w) (by omega)
  rw [if_pos (by omega)] at e0
  unfold fx_X7_setRow
  rw [r_03 h.1, bd_s, e0]
  rfl
theorem has_0 (a : Int32) : has a 0 = 0 := by
  unfold has
  by_cases h : a < 0
  · rw [if_pos h]
  · rw [if_neg h, if_pos (show nI 0 ≤ a from Int32.not_lt.mp h)]
theorem x_rows1 (h : CR D L C ν f) (hL : L = 0) : fx_X7_setRow KF ν 0 0 6 0 = some (1, ν) := by
  subst hL
  unfold fx_X7_setRow f_X5_whyNotChangeRow
  rw [r_03 h.1, bd_s, c_hasLabel h, has_0, bd_s, if_pos rfl]
  rfl
theorem a_customer (h : CR D L C ν f) (hC6 : C < 6) (k : ∀ j, j < 182 → j ≠ 9 → (j < 146 + 6 * C ∨ 146 + 6 * C + 6 ≤ j) → g j = f j) (g9 : g 9 = nI (C + 1)) (n0 : g (146 + 6 * C) = -1) (n1 : g (146 + 6 * C + 1) = -1) (n2 : ∀ j, 2 ≤ j → j < 6 → g (146 + 6 * C + j) = 0) :
    ∃ ν', f_X5_newCustomer KF ν 9 = some (nI C, ν') ∧ CR D L (C + 1) ν' g ∧ FN ν ν' := by
  obtain ⟨hR, hc, hwf⟩ := h
  have hD := hwf.1
  have hL := hwf.2.1
  have e61 : ν.1 9 6 = nI C := hc.2.2.2.1.2.1.trans hwf.2.2.1.1
  refine ⟨sI ν 9 6 (nI (C + 1)), ?_, ⟨hR, hc.cus ⟨hD.2.2, hL.2⟩ (fun a ha ha' => sI_rw (by omega)) ⟨sI_of (by omega), sI_of (by omega)⟩ (fun j hj hj' => k j (by omega) hj' (by omega)) ?_ (fun c hk j hj => ?_) (fun c hk hk' => ?_), hwf.cus (fun j hj hj' => k j (by omega) hj' (by omega)) g9 (by omega) (fun c hk => ?_) (fun j c d hj hk hd r r' => ?_)⟩, FrI.rfl.sI (by constructor <;> omega)⟩
  · unfold f_X5_newCustomer
    rw [e61, nI_1, l1_s, sI_at, nI_pred]
  · rw [sI_at, g9]
  · by_cases e : c = C
    · subst e
      have p8 := hc.2.2.2.2.2.2.2 c (Nat.le_refl c) (by omega)
      rw [sI_rw (by omega)]
      by_cases e0 : j = 0
      · subst e0
        exact p8.1.trans n0.symm
      · by_cases e1 : j = 1
        · subst e1
          exact p8.2.1.trans n1.symm
        · exact (p8.2.2 j (by omega) hj).trans (n2 j (by omega) hj).symm
    · rw [sI_rw (by omega), k _ (by omega) (by omega) (by omega)]
      exact cpl_cus hc (by omega) hj
  · rw [sI_rw (by omega)]
    exact hc.2.2.2.2.2.2.2 c (by omega) hk'
  · by_cases e : c = C
    · subst e
      exact Or.inl ⟨n0, n1⟩
    · rw [k _ (by omega) (by omega) (by omega), k _ (by omega) (by omega) (by omega)]
      exact hwf.2.2.2.2.2.2.1 c (by omega)
  · have hne : ∀ c, rents g c d → c ≠ C := fun c r e => by
      subst e
      exact r.1 n0
    have cv : ∀ c, c < C → rents g c d → rents f c d := fun c hk r => by
      unfold rents at *
      rwa [k _ (by omega) (by omega) (by omega), k _ (by omega) (by omega) (by omega)] at r
    have hj' := hne j r
    have hk' := hne c r'
    exact hwf.2.2.2.2.2.2.2.1 j c d (by omega) (by omega) hd (cv j (by omega) r) (cv c (by omega) r')
theorem o_customers (h : CR D L C ν f) (hs : SVL ν) (hC6 : C < 6) (k : ∀ j, j < 182 → j ≠ 9 → (j < 146 + 6 * C ∨ 146 + 6 * C + 6 ≤ j) → g j = f j) (g9 : g 9 = nI (C + 1)) (n0 : g (146 + 6 * C) = -1) (n1 : g (146 + 6 * C + 1) = -1) (n2 : ∀ j, 2 ≤ j → j < 6 → g (146 + 6 * C + j) = 0) :
    ∃ ν', f_L_customers KF ν 0 = some (nI C, ν') ∧ CR D L (C + 1) ν' g ∧ GR ν ν' := by
  have e6 : ν.1 9 6 = nI C := h.2.1.2.2.2.1.2.1.trans h.2.2.2.2.1.1
  have e0 : f_X5_whyNotNewCustomer KF ν 9 = some 0 := by
    unfold f_X5_whyNotNewCustomer
    rw [e6, if_pos (show nI C < 6 from nI_lt (b := 6) (by omega) (by omega))]
    rfl
  obtain ⟨ν1, ν2, e1, r1, e2, h2, g2⟩ := grant h hs (act := fun ν => f_X5_newCustomer KF ν 9) (fun ν1 h1' _ => a_customer h1' hC6 k g9 n0 n1 n2)
  refine ⟨ν2, ?_, h2, g2⟩
  have e2 : f_X5_newCustomer KF ν1 9 = some (nI C, ν2) := e2
  unfold f_L_customers f_X7_addCustomer
  rw [r_03 h.1, bd_s, e0, bd_s, ref0, bd_s, e1, bd_s, r_03 r1, bd_s, e2]
  rfl
theorem x_customers (h : CR D L C ν f) (hC6 : C = 6) : fx_X7_addCustomer KF ν 0 = some (3, ν) := by
  have e6 : ν.1 9 6 = nI C := h.2.1.2.2.2.1.2.1.trans h.2.2.2.2.1.1
  unfold fx_X7_addCustomer f_X5_whyNotNewCustomer
  rw [r_03 h.1, bd_s, e6, hC6]
  rfl
end PureOpsB
