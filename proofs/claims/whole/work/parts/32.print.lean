/-! PURE: printing a label for a customer -/
section PureT
theorem c_book {μ : Mm} {c l : Nat} (hc : c < 6) (hl : l < 6) {p x : Int32} (hx : x = 0 ∨ x = 1) : ∃ μ', f_X5_book KF μ 9 (29 + c) (17 + 2 * l) p x = some μ' ∧ FrI (fun a => a = 29 + c ∨ a = 17 + 2 * l) μ μ' ∧
    (∀ j, j < 2 → μ'.1 (29 + c) j = μ.1 (29 + c) j ∧ μ'.1 (17 + 2 * l) j = μ.1 (17 + 2 * l) j) ∧ (μ'.1 (29 + c) 2 = μ.1 (29 + c) 2 + p ∧ μ'.1 (29 + c) 3 = μ.1 (29 + c) 3 + x * p ∧ μ'.1 (29 + c) 4 = μ.1 (29 + c) 4 + 1 ∧ μ'.1 (29 + c) 5 = μ.1 (29 + c) 5 + x) ∧
    (μ'.1 (17 + 2 * l) 2 = μ.1 (17 + 2 * l) 2 + 1 ∧ μ'.1 (17 + 2 * l) 3 = μ.1 (17 + 2 * l) 3 + x) := by
  rcases hx with rfl | rfl
  · refine ⟨_, ?_, ((FrI.rfl (S := fun a => a = 29 + c ∨ a = 17 + 2 * l)).sI (k := 29 + c) (j := 2) (v := μ.1 (29 + c) 2 + p) (Or.inl rfl)).sI (k := 29 + c) (j := 4) (v := μ.1 (29 + c) 4 + 1) (Or.inl rfl) |>.sI (k := 17 + 2 * l) (j := 2) (v := μ.1 (17 + 2 * l) 2 + 1) (Or.inr rfl), fun j hj => ⟨?_, ?_⟩, ⟨?_, ?_, ?_, ?_⟩, ⟨?_, ?_⟩⟩
    · unfold f_X5_book
      simp (disch := omega) only [l1_s, sI_no, sI_of, if_true]
    all_goals simp (disch := omega) only [sI_no, sI_of, sI_at, Int32.zero_mul, Int32.add_zero]
  · refine ⟨_, ?_, ((((((FrI.rfl (S := fun a => a = 29 + c ∨ a = 17 + 2 * l)).sI (k := 29 + c) (j := 2) (v := μ.1 (29 + c) 2 + p) (Or.inl rfl)).sI (k := 29 + c) (j := 4) (v := μ.1 (29 + c) 4 + 1) (Or.inl rfl)).sI (k := 17 + 2 * l) (j := 2) (v := μ.1 (17 + 2 * l) 2 + 1) (Or.inr rfl)).sI (k := 29 + c) (j := 3) (v := μ.1 (29 + c) 3 + p) (Or.inl rfl)).sI (k := 29 + c) (j := 5) (v := μ.1 (29 + c) 5 + 1) (Or.inl rfl)).sI (k := 17 + 2 * l) (j := 3) (v := μ.1 (17 + 2 * l) 3 + 1) (Or.inr rfl), fun j hj => ⟨?_, ?_⟩, ⟨?_, ?_, ?_, ?_⟩, ⟨?_, ?_⟩⟩
    · unfold f_X5_book
      simp (disch := omega) only [l1_s, sI_no, sI_of, i10]
    all_goals simp (disch := omega) only [sI_no, sI_of, sI_at, Int32.one_mul]
theorem sumL_upd {f g : Nat → Int32} {j l : Nat} {δ : Int32} (hl : g (86 + 10 * l + j) = f (86 + 10 * l + j) + δ) (ho : ∀ i, i < 6 → i ≠ l → g (86 + 10 * i + j) = f (86 + 10 * i + j)) : ∀ n, n ≤ 6 → (l < n → sumL g j n = sumL f j n + δ) ∧ (n ≤ l → sumL g j n = sumL f j n)
  | 0, _ => ⟨fun h => absurd h (by omega), fun _ => rfl⟩
  | n + 1, hn => by
    obtain ⟨h1, h2⟩ := sumL_upd hl ho n (by omega)
    refine ⟨fun h => ?_, fun h => ?_⟩
    · show sumL g j n + g (86 + 10 * n + j) = sumL f j n + f (86 + 10 * n + j) + δ
      by_cases e : n = l
      · subst e
        rw [h2 (Nat.le_refl n), hl, Int32.add_assoc]
      · rw [h1 (by omega), ho n (by omega) e]
        exact arc _ _ _
    · show sumL g j n + g (86 + 10 * n + j) = sumL f j n + f (86 + 10 * n + j)
      rw [h2 (by omega), ho n (by omega) (by omega)]
/-- the reference books -/
def bk (η : Mm) (c l : Nat) (p x : Int32) : Mm :=
  sI (sI (sI (sI (sI (sI (sI (sI η 140 (146 + 6 * c + 2) (η.1 140 (146 + 6 * c + 2) + p)) 140 (146 + 6 * c + 3) (η.1 140 (146 + 6 * c + 3) + x * p)) 140 (146 + 6 * c + 4) (η.1 140 (146 + 6 * c + 4) + 1)) 140 (146 + 6 * c + 5) (η.1 140 (146 + 6 * c + 5) + x)) 140 (86 + 10 * l + 8) (η.1 140 (86 + 10 * l + 8) + 1)) 140 (86 + 10 * l + 9) (η.1 140 (86 + 10 * l + 9) + x)) 140 11 (η.1 140 11 + 1)) 140 12 (η.1 140 12 + x)
theorem bk_v {η : Mm} {c l : Nat} {p x : Int32} (hl : l < 6) : ((bk η c l p x).1 140 (146 + 6 * c + 2) = η.1 140 (146 + 6 * c + 2) + p ∧ (bk η c l p x).1 140 (146 + 6 * c + 3) = η.1 140 (146 + 6 * c + 3) + x * p ∧ (bk η c l p x).1 140 (146 + 6 * c + 4) = η.1 140 (146 + 6 * c + 4) + 1 ∧ (bk η c l p x).1 140 (146 + 6 * c + 5) = η.1 140 (146 + 6 * c + 5) + x) ∧
    ((bk η c l p x).1 140 (86 + 10 * l + 8) = η.1 140 (86 + 10 * l + 8) + 1 ∧ (bk η c l p x).1 140 (86 + 10 * l + 9) = η.1 140 (86 + 10 * l + 9) + x) ∧ ((bk η c l p x).1 140 11 = η.1 140 11 + 1 ∧ (bk η c l p x).1 140 12 = η.1 140 12 + x) := by
  unfold bk
  refine ⟨⟨?_, ?_, ?_, ?_⟩, ⟨?_, ?_⟩, ⟨?_, ?_⟩⟩ <;> simp (disch := omega) only [sI_of, sI_at]
theorem bk_o {η : Mm} {c l j : Nat} {p x : Int32} (h : j ≠ 11 ∧ j ≠ 12 ∧ j ≠ 86 + 10 * l + 8 ∧ j ≠ 86 + 10 * l + 9 ∧ (j < 146 + 6 * c + 2 ∨ 146 + 6 * c + 6 ≤ j)) : (bk η c l p x).1 140 j = η.1 140 j := by
  unfold bk
  simp (disch := omega) only [sI_of]
theorem bk_f {η : Mm} {c l : Nat} {p x : Int32} : FrI (fun a => a = 140) η (bk η c l p x) := ((((((((FrI.rfl (S := fun a => a = 140)).sI rfl).sI rfl).sI rfl).sI rfl).sI rfl).sI rfl).sI rfl).sI rfl
theorem CR.book {D L C c l : Nat} {μ μ' η : Mm} (h : CR D L C μ η) (hc : c < C) (hl : l < L) {p x : Int32} (f : FrI (fun a => a = 29 + c ∨ a = 17 + 2 * l) μ μ')
    (k : ∀ j, j < 2 → μ'.1 (29 + c) j = μ.1 (29 + c) j ∧ μ'.1 (17 + 2 * l) j = μ.1 (17 + 2 * l) j) (k2 : μ'.1 (29 + c) 2 = μ.1 (29 + c) 2 + p ∧ μ'.1 (29 + c) 3 = μ.1 (29 + c) 3 + x * p ∧ μ'.1 (29 + c) 4 = μ.1 (29 + c) 4 + 1 ∧ μ'.1 (29 + c) 5 = μ.1 (29 + c) 5 + x)
    (k3 : μ'.1 (17 + 2 * l) 2 = μ.1 (17 + 2 * l) 2 + 1 ∧ μ'.1 (17 + 2 * l) 3 = μ.1 (17 + 2 * l) 3 + x) : CR D L C μ' (bk η c l p x) := by
  obtain ⟨hR, hR2, hcp, hw⟩ := h
  have hD := hw.1
  have hL := hw.2.1
  have hC := hw.2.2.1
  obtain ⟨⟨v2, v3, v4, v5⟩, ⟨v8, v9⟩, ⟨v11, v12⟩⟩ := bk_v (η := η) (c := c) (l := l) (p := p) (x := x) (by omega)
  have q : ∀ a, ¬ (a = 29 + c ∨ a = 17 + 2 * l) → μ'.1 a = μ.1 a := fun a ha => f.2 a ha
  have o : ∀ j, j ≠ 11 ∧ j ≠ 12 ∧ j ≠ 86 + 10 * l + 8 ∧ j ≠ 86 + 10 * l + 9 ∧ (j < 146 + 6 * c + 2 ∨ 146 + 6 * c + 6 ≤ j) → (bk η c l p x).1 140 j = η.1 140 j := fun j hj => bk_o hj
  obtain ⟨p1, p2, p3, p4, p5, p6, p7, p8⟩ := hcp
  refine ⟨hR.fr f, hR2.fr bk_f, ⟨?_, fun d hd => ?_, fun j hj => ?_, ?_, fun i hi => ?_, fun i hi hi6 => ?_, fun i hi j hj => ?_, fun i hi hi6 => ?_⟩, ?_⟩
  · rw [q _ (by omega), o _ (by omega), o _ (by omega)]
    exact p1
  · rw [q (9 + 2) (by omega), q (9 + 3) (by omega), q (9 + 4) (by omega), o _ (by omega), o _ (by omega), o _ (by omega)]
    exact p2 d hd
  · rw [q _ (by omega), o _ (by omega)]
    exact p3 j hj
  · rw [q _ (by omega), o _ (by omega), o _ (by omega), o _ (by omega)]
    exact p4
  · obtain ⟨⟨a0, a1, a2, a3⟩, a4⟩ := p5 i hi
    refine ⟨?_, fun r hr => by rw [q _ (by omega), o _ (by omega)]; exact a4 r hr⟩
    by_cases e : i = l
    · subst e
      have t0 := (k 0 (by omega)).2
      have t1 := (k 1 (by omega)).2
      rw [o _ (by omega), o _ (by omega), v8, v9]
      refine ⟨t0.trans a0, t1.trans a1, k3.1.trans ?_, k3.2.trans ?_⟩
      · rw [← a2]
      · rw [← a3]
    · rw [q _ (by omega), o _ (by omega), o _ (by omega), o _ (by omega), o _ (by omega)]
      exact ⟨a0, a1, a2, a3⟩
  · rw [q _ (by omega), q _ (by omega)]
    exact p6 i hi hi6
  · by_cases e : i = c
    · subst e
      have a := p7 i hi
      rcases j6 hj with rfl | rfl | rfl | rfl | rfl | rfl
      · rw [o _ (by omega)]
        exact ((k 0 (by omega)).1).trans (a 0 (by omega))
      · rw [o _ (by omega)]
        exact ((k 1 (by omega)).1).trans (a 1 (by omega))
      · rw [v2, ← a 2 (by omega)]
        exact k2.1
      · rw [v3, ← a 3 (by omega)]
        exact k2.2.1
      · rw [v4, ← a 4 (by omega)]
        exact k2.2.2.1
      · rw [v5, ← a 5 (by omega)]
        exact k2.2.2.2
    · rw [q _ (by omega), o _ (by omega)]
      exact p7 i hi j hj
  · rw [q _ (by omega)]
    exact p8 i hi hi6
  · obtain ⟨⟨w1, w1'⟩, ⟨w2, w2'⟩, ⟨w3, w3'⟩, w4, w5, w6, w7, w8, w9, w10⟩ := hw
    refine ⟨⟨by rw [o _ (by omega)]; exact w1, w1'⟩, ⟨by rw [o _ (by omega)]; exact w2, w2'⟩, ⟨by rw [o _ (by omega)]; exact w3, w3'⟩, ?_, fun d hd => by rw [o _ (by omega), o _ (by omega)]; exact w5 d hd, PLb.cong w2' (fun i r _ _ => o _ (by omega)) w6, PRn.cong w3' (fun i j _ _ => o _ (by omega)) w7, PDj.cong w3' (fun i j _ _ => o _ (by omega)) w8, ?_, ?_⟩
    · rw [o 1 (by omega), o 2 (by omega), o 3 (by omega), o 4 (by omega), o 5 (by omega), o 6 (by omega), o 7 (by omega)]
      exact w4
    · rw [(sumL_upd (f := η.1 140) (g := (bk η c l p x).1 140) v8 (fun i hi6 hi => o _ (by omega)) L w2').1 hl, v11, w9]
    · rw [(sumL_upd (f := η.1 140) (g := (bk η c l p x).1 140) v9 (fun i hi6 hi => o _ (by omega)) L w2').1 hl, v12, w10]
theorem b_print {D L C c l o : Nat} {μ η : Mm} (h : CR D L C μ η) (hc : c < C) (hl : l < L) (ho : ∀ w, η.1 140 (86 + 10 * l) = nI w → w ≤ 12 → o + w ≤ D) :
    ∃ v μ' η', f_X5_printAt KF μ 9 (nI c) (nI l) (nI o) = some (v, μ') ∧ f_X8_prints KF η 139 (nI c) (nI l) (nI o) = some (v, η') ∧ CR D L C μ' η' ∧ FN μ μ' ∧ FR η η' ∧ bnd v 0 72 := by
  obtain ⟨w, bw, ew, eb, hN⟩ := wf_PN h.2.2.2 hl (k := 140) (Or.inl rfl)
  have how := ho w ew hN.2.2.1.2
  have hl6 := hN.1
  obtain ⟨pr, e1, e2⟩ := b_price h hc hl ho
  have hPC := CR_PC h hl ew eb
  obtain ⟨hR, hR2, hcp, hw⟩ := h
  have hD := hw.1
  have hL := hw.2.1
  have hC := hw.2.2.1
  have e10 : μ.1 10 0 = nI D := hcp.1.1.trans hD.1
  have hPR : PR 10 140 0 D (fun _ => 0) 0 μ η := by
    refine ⟨e10, fun x hx => ?_, by rw [Int32.add_zero]; exact hcp.1.2⟩
    obtain ⟨y1, y2, y3⟩ := cpl_dot hcp hx
    exact ⟨⟨y1, y2, by show μ.1 13 x = _ + 0; rw [Int32.add_zero]; exact y3⟩, hw.2.2.2.2.1 x hx⟩
  obtain ⟨v, μ1, η1, y1, y2, ⟨-, z1, z2⟩, y4, y5, y6, y7⟩ := b_play (q := o) hN (Or.inl rfl) hPC hPR (by omega) (by omega)
  have q : ∀ a, ¬ (10 ≤ a ∧ a ≤ 13) → μ1.1 a = μ.1 a := fun a ha => y4.1.2 a ha
  have g : ∀ j, (j < 14 ∧ j ≠ 10 ∧ j ≠ 13 ∨ 86 ≤ j) → η1.1 140 j = η.1 140 j := y5.2
  let μ2 := sI μ1 9 7 (μ1.1 9 7 + 6)
  have hR1 : RF μ1 := hR.fr y4.1
  have hR11 : RF η1 := hR2.fr y5.1
  have hcr : CR D L C μ2 η1 := by
    refine ⟨RF.sI hR1, hR11, hcp.dots ⟨hL.2, hC.2⟩ (fun a ha _ => by rw [show μ2.1 a = μ1.1 a from sI_rw (by omega), q a (by omega)]) ⟨by rw [show μ2.1 9 4 = μ1.1 9 4 from sI_of (by omega), q 9 (by omega)], by rw [show μ2.1 9 6 = μ1.1 9 6 from sI_of (by omega), q 9 (by omega)]⟩ (fun j _ hj => g j (by omega)) ⟨?_, ?_⟩ ?_ (fun d hd => ?_), hw.dots (fun j _ hj => g j (by omega)) (fun d hd => (z1 d hd).2)⟩
    · rw [show μ2.1 10 0 = μ1.1 10 0 from sI_no (by omega), y4.2, g 0 (by omega)]
      exact hcp.1.1
    · rw [show μ2.1 10 1 = μ1.1 10 1 from sI_no (by omega), z2, Int32.add_zero]
    · rw [show μ2.1 9 7 = μ1.1 9 7 + 6 from sI_at, q 9 (by omega), y6, hcp.2.2.2.1.2.2]
      rfl
    · obtain ⟨⟨x1, x2, x3⟩, -⟩ := z1 d hd
      rw [show μ2.1 11 = μ1.1 11 from sI_rw (by omega), show μ2.1 12 = μ1.1 12 from sI_rw (by omega), show μ2.1 13 = μ1.1 13 from sI_rw (by omega)]
      exact ⟨x1, x2, by rw [show μ1.1 13 d = _ from x3]; exact Int32.add_zero _⟩
  have al : μ2.1 14 5 = η1.1 140 6 := cpl_set hcr.2.2.1 (j := 5) (by omega)
  have hx01 : (if v ≤ η1.1 140 6 then (0 : Int32) else 1) = 0 ∨ (if v ≤ η1.1 140 6 then (0 : Int32) else 1) = 1 := by
    split
    · exact Or.inl rfl
    · exact Or.inr rfl
  generalize hxx : (if v ≤ η1.1 140 6 then (0 : Int32) else 1) = x at hx01
  obtain ⟨μ3, b1, b2, b3, b4, b5⟩ := c_book (μ := μ2) (c := c) (l := l) (p := pr) (by omega) hl6 hx01
  refine ⟨v, μ3, bk η1 c l pr x, ?_, ?_, hcr.book hc hl b2 b3 b4 b5, ?_, ?_, y7⟩
  · unfold f_X5_printAt
    have hR2' : RF μ2 := hcr.1
    rw [e1, bd_s]
    simp (disch := omega) only [r_90 hR, r_93 hR, r_92 hR, bd_s, K15, gd_n, ix_n, r_lab hR hl6, y1, l1_s]
    rw [show sI μ1 9 7 (μ1.1 9 7 + 6) = μ2 from rfl]
    simp (disch := omega) only [r_95 hR2', r_93 hR2', r_92 hR2', bd_s, K15, K16, K14, L5, gd_n, ix_n, r_lab hR2' hl6, r_cus hR2' (show c < 6 by omega), al, l1_s]
    rw [hxx, b1]
    rfl
  · unfold f_X8_prints
    rw [e2, bd_s]
    have y2' : f_X8_plays KF η 139 140 (nI l) (nI o) = some (v, η1) := y2
    simp (disch := omega) only [r_m0 hR2, r_m0 hR11, rf_sI, bd_s, l1_s, y2', K140, L2, L3, L4, L5, L6, L8, L9, L11, L12, L86, L146, L10, nI_add, pk_mul, gd_n, ix_n, hxx]
    unfold bk
    simp (disch := omega) only [sI_of]
  · refine (y4.1.mono (fun a ha => ⟨by have := ha.1; omega, by have := ha.2; omega⟩)).trans ?_
    refine FrI.trans (μ' := μ2) (FrI.rfl.sI ⟨by omega, by omega⟩) (b2.mono (fun a ha => ?_))
    have ha : a = 29 + c ∨ a = 17 + 2 * l := ha
    exact ⟨by omega, by omega⟩
  · exact (y5.1.mono (fun a ha => Or.inl ha)).trans (bk_f.mono (fun a ha => Or.inl ha))
end PureT
