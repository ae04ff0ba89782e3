/-! PURE: printing for a customer: the class -/
section PureOpsE
theorem c_book {μ : Mm} {c l : Nat} (hc : c < 6) (hl : l < 6) {p x : Int32} (hx : x = 0 ∨ x = 1) : ∃ μ', f_X5_book KF μ 9 (29 + c) (17 + 2 * l) p x = some μ' ∧ FrI (fun a => a = 29 + c ∨ a = 17 + 2 * l) μ μ' ∧
    (∀ j, j < 2 → μ'.1 (29 + c) j = μ.1 (29 + c) j ∧ μ'.1 (17 + 2 * l) j = μ.1 (17 + 2 * l) j) ∧ (μ'.1 (29 + c) 2 = μ.1 (29 + c) 2 + p ∧ μ'.1 (29 + c) 3 = μ.1 (29 + c) 3 + x * p ∧ μ'.1 (29 + c) 4 = μ.1 (29 + c) 4 + 1 ∧ μ'.1 (29 + c) 5 = μ.1 (29 + c) 5 + x) ∧
    (μ'.1 (17 + 2 * l) 2 = μ.1 (17 + 2 * l) 2 + 1 ∧ μ'.1 (17 + 2 * l) 3 = μ.1 (17 + 2 * l) 3 + x) := by
  rcases hx with rfl | rfl
  · refine ⟨_, ?_, ((FrI.rfl (S := fun a => a = 29 + c ∨ a = 17 + 2 * l)).sI (k := 29 + c) (j := 2) (v := μ.1 (29 + c) 2 + p) (Or.inl rfl)).sI (k := 29 + c) (j := 4) (v := μ.1 (29 + c) 4 + 1) (Or.inl rfl) |>.sI (k := 17 + 2 * l) (j := 2) (v := μ.1 (17 + 2 * l) 2 + 1) (Or.inr rfl), fun j hj => ⟨?_, ?_⟩, ⟨?_, ?_, ?_, ?_⟩, ⟨?_, ?_⟩⟩
    · unfold f_X5_book
      simp (disch := omega) only [l1_s, sI_no, sI_of, if_true]
    all_goals simp (disch := omega) only [sI_no, sI_of, sI_at, Int32.zero_mul, Int32.add_zero]
  · refine ⟨_, ?_, ((((((FrI.rfl (S := fun a => a = 29 + c ∨ a = 17 + 2 * l)).sI (k := 29 + c) (j := 2) (v := μ.1 (29 + c) 2 + p) (Or.inl rfl)).sI (k := 29 + c) (j := 4) (v := μ.1 (29 + c) 4 + 1) (Or.inl rfl)).sI (k := 17 + 2 * l) (j := 2) (v := μ.1 (17 + 2 * l) 2 + 1) (Or.inr rfl)).sI (k := 29 + c) (j := 3) (v := μ.1 (29 + c) 3 + p) (Or.inl rfl)).sI (k := 29 + c) (j := 5) (v := μ.1 (29 + c) 5 + 1) (Or.inl rfl)).sI (k := 17 + 2 * l) (j := 3) (v := μ.1 (17 + 2 * l) 3 + 1) (Or.inr rfl), fun j hj => ⟨?_, ?_⟩, ⟨?_, ?_, ?_, ?_⟩, ⟨?_, ?_⟩⟩
    · unfold f_X5_book
      simp (disch := omega) only [l1_s, sI_no, sI_of, i10]
    all_goals simp (disch := omega) only [sI_no, sI_of, sI_at, Int32.one_mul]
theorem sumL_upd {f g : Nat → Int32} {j l : Nat} {δ : Int32} (hl : g (86 + 10 * l + j) = f (86 + 10 * l + j) + δ) (ho : ∀ i, i < 6 → i ≠ l → g (86 + 10 * i + j) = f (86 + 10 * i + j)) : ∀ n, n ≤ 6 → (l < n → sumL g j n = sumL f j n + δ) ∧ (n ≤ l → sumL g j n = sumL f j n)
  | 0, _ => ⟨fun h => absurd h (by omega), fun _ => rfl⟩
  | n + 1, hn => by
    obtain ⟨h1, h2⟩ := sumL_upd hl ho n (by omega)
    refine ⟨fun h => ?_, fun h => ?_⟩
    · show sumL g j n + g (86 + 10 * n + j) = sumL f j n + f (86 + 10 * n + j) + δ
      by_cases e : n = l
      · subst e
        rw [h2 (Nat.le_refl n), hl, Int32.add_assoc]
      · rw [h1 (by omega), ho n (by omega) e]
        exact arc _ _ _
    · show sumL g j n + g (86 + 10 * n + j) = sumL f j n + f (86 + 10 * n + j)
      rw [h2 (by omega), ho n (by omega) (by omega)]
variable {D L C : Nat} {ν : Mm} {f g : Nat → Int32}
/-- what a print makes of the row -/
def PRT (f g : Nat → Int32) (D c l : Nat) (s : QQ) (p x : Int32) : Prop :=
  (∀ d, d < D → g (14 + 3 * d) = nI (qh s d) ∧ g (14 + 3 * d + 1) = nI (qy s d) ∧ g (14 + 3 * d + 2) = qu s d) ∧ (g 10 = qt s ∧ g 13 = f 13 + nI 6) ∧
  (g (146 + 6 * c + 2) = f (146 + 6 * c + 2) + p ∧ g (146 + 6 * c + 3) = f (146 + 6 * c + 3) + x * p ∧ g (146 + 6 * c + 4) = f (146 + 6 * c + 4) + 1 ∧ g (146 + 6 * c + 5) = f (146 + 6 * c + 5) + x) ∧
  (g (86 + 10 * l + 8) = f (86 + 10 * l + 8) + 1 ∧ g (86 + 10 * l + 9) = f (86 + 10 * l + 9) + x) ∧ (g 11 = f 11 + 1 ∧ g 12 = f 12 + x) ∧
  ∀ j, j < 182 → j ≠ 10 → j ≠ 11 → j ≠ 12 → j ≠ 13 → j ≠ 86 + 10 * l + 8 → j ≠ 86 + 10 * l + 9 → (j < 146 + 6 * c + 2 ∨ 146 + 6 * c + 6 ≤ j) → (j < 14 ∨ 14 + 3 * D ≤ j) → g j = f j
theorem CR.book {c l : Nat} {μ : Mm} (h : CR D L C ν f) (hc : c < C) (hl : l < L) {p x : Int32} (fr : FrI (fun a => a = 29 + c ∨ a = 17 + 2 * l) ν μ)
    (k : ∀ j, j < 2 → μ.1 (29 + c) j = ν.1 (29 + c) j ∧ μ.1 (17 + 2 * l) j = ν.1 (17 + 2 * l) j) (k2 : μ.1 (29 + c) 2 = ν.1 (29 + c) 2 + p ∧ μ.1 (29 + c) 3 = ν.1 (29 + c) 3 + x * p ∧ μ.1 (29 + c) 4 = ν.1 (29 + c) 4 + 1 ∧ μ.1 (29 + c) 5 = ν.1 (29 + c) 5 + x)
    (k3 : μ.1 (17 + 2 * l) 2 = ν.1 (17 + 2 * l) 2 + 1 ∧ μ.1 (17 + 2 * l) 3 = ν.1 (17 + 2 * l) 3 + x)
    (v2 : g (146 + 6 * c + 2) = f (146 + 6 * c + 2) + p) (v3 : g (146 + 6 * c + 3) = f (146 + 6 * c + 3) + x * p) (v4 : g (146 + 6 * c + 4) = f (146 + 6 * c + 4) + 1) (v5 : g (146 + 6 * c + 5) = f (146 + 6 * c + 5) + x)
    (v8 : g (86 + 10 * l + 8) = f (86 + 10 * l + 8) + 1) (v9 : g (86 + 10 * l + 9) = f (86 + 10 * l + 9) + x) (v11 : g 11 = f 11 + 1) (v12 : g 12 = f 12 + x)
    (o : ∀ j, j < 182 ∧ j ≠ 11 ∧ j ≠ 12 ∧ j ≠ 86 + 10 * l + 8 ∧ j ≠ 86 + 10 * l + 9 ∧ (j < 146 + 6 * c + 2 ∨ 146 + 6 * c + 6 ≤ j) → g j = f j) : CR D L C μ g := by
  obtain ⟨hR, hcp, hw⟩ := h
  have hD := hw.1
  have hL := hw.2.1
  have hC := hw.2.2.1
  have q : ∀ a, ¬ (a = 29 + c ∨ a = 17 + 2 * l) → μ.1 a = ν.1 a := fun a ha => fr.2 a ha
  obtain ⟨p1, p2, p3, p4, p5, p6, p7, p8⟩ := hcp
  refine ⟨hR.fr fr, ⟨?_, fun d hd => ?_, fun j hj => ?_, ?_, fun i hi => ?_, fun i hi hi6 => ?_, fun i hi j hj => ?_, fun i hi hi6 => ?_⟩, ?_⟩
  · rw [q _ (by omega), o _ (by omega), o _ (by omega)]
    exact p1
  · rw [q (9 + 2) (by omega), q (9 + 3) (by omega), q (9 + 4) (by omega), o _ (by omega), o _ (by omega), o _ (by omega)]
    exact p2 d hd
  · rw [q _ (by omega), o _ (by omega)]
    exact p3 j hj
  · rw [q _ (by omega), o _ (by omega), o _ (by omega), o _ (by omega)]
    exact p4
  · obtain ⟨⟨a0, a1, a2, a3⟩, a4⟩ := p5 i hi
    refine ⟨?_, fun r hr => by rw [q _ (by omega), o _ (by omega)]; exact a4 r hr⟩
    by_cases e : i = l
    · subst e
      have t0 := (k 0 (by omega)).2
      have t1 := (k 1 (by omega)).2
      rw [o _ (by omega), o _ (by omega), v8, v9]
      refine ⟨t0.trans a0, t1.trans a1, k3.1.trans ?_, k3.2.trans ?_⟩
      · rw [← a2]
      · rw [← a3]
    · rw [q _ (by omega), o _ (by omega), o _ (by omega), o _ (by omega), o _ (by omega)]
      exact ⟨a0, a1, a2, a3⟩
  · rw [q _ (by omega), q _ (by omega)]
    exact p6 i hi hi6
  · by_cases e : i = c
    · subst e
      have a := p7 i hi
      rcases j6 hj with rfl | rfl | rfl | rfl | rfl | rfl
      · rw [o _ (by omega)]
        exact ((k 0 (by omega)).1).trans (a 0 (by omega))
      · rw [o _ (by omega)]
        exact ((k 1 (by omega)).1).trans (a 1 (by omega))
      · rw [v2, ← a 2 (by omega)]
        exact k2.1
      · rw [v3, ← a 3 (by omega)]
        exact k2.2.1
      · rw [v4, ← a 4 (by omega)]
        exact k2.2.2.1
      · rw [v5, ← a 5 (by omega)]
        exact k2.2.2.2
    · rw [q _ (by omega), o _ (by omega)]
      exact p7 i hi j hj
  · rw [q _ (by omega)]
    exact p8 i hi hi6
  · obtain ⟨⟨w1, w1'⟩, ⟨w2, w2'⟩, ⟨w3, w3'⟩, w4, w5, w6, w7, w8, w9, w10⟩ := hw
    refine ⟨⟨by rw [o _ (by omega)]; exact w1, w1'⟩, ⟨by rw [o _ (by omega)]; exact w2, w2'⟩, ⟨by rw [o _ (by omega)]; exact w3, w3'⟩, ?_, fun d hd => by rw [o _ (by omega), o _ (by omega)]; exact w5 d hd, PLb.cong w2' (fun i r _ _ => o _ (by omega)) w6, PRn.cong w3' (fun i j _ _ => o _ (by omega)) w7, PDj.cong w3' (fun i j _ _ => o _ (by omega)) w8, ?_, ?_⟩
    · rw [o 1 (by omega), o 2 (by omega), o 3 (by omega), o 4 (by omega), o 5 (by omega), o 6 (by omega), o 7 (by omega)]
      exact w4
    · rw [(sumL_upd (f := f) (g := g) v8 (fun i hi6 hi => o _ (by omega)) L w2').1 hl, v11, w9]
    · rw [(sumL_upd (f := f) (g := g) v9 (fun i hi6 hi => o _ (by omega)) L w2').1 hl, v12, w10]
theorem a_print {c l o w : Nat} (h : CR D L C ν f) (hc : c < C) (hl : l < L) (ew : f (86 + 10 * l) = nI w) (hw1 : 1 ≤ w) (hw2 : w ≤ 12) (how : o + w ≤ D) (hg : PRT f g D c l (PL (prP f l) o 6 (stQ f)) (priV f c l o w) (if nI (badN f l o) ≤ f 6 then 0 else 1)) :
    ∃ ν', f_X5_printAt KF ν 9 (nI c) (nI l) (nI o) = some (nI (badN f l o), ν') ∧ CR D L C ν' g ∧ FN ν ν' := by
  have e1 := c_price h hc hl ew hw1 hw2 how
  have hPC := CR_PCc h hl
  have hS := CR_HdS h
  obtain ⟨hN, ewp, -, -⟩ := prP_ok h.2.2 hl
  have epw : pw (prP f l) = w := by
    show nat (f (86 + 10 * l)) = w
    rw [ew, nat_n (by omega)]
  obtain ⟨hR, hcp, hw⟩ := h
  have hD := hw.1
  have hL := hw.2.1
  have hC := hw.2.2.1
  have hdu : pdu (prP f l) ≤ 90 := by have := hN.1.2; have := hN.2.1; omega
  obtain ⟨μ1, y1, ⟨-, z1, z2⟩, y4⟩ := c_playP (o := o) hN (Or.inl rfl) hPC hS (wf_QB hw) (by omega) (by omega) rfl
  have y1 : f_X3_printRows KF ν 10 (17 + 2 * l) (nI o) 14 = some (nI (badN f l o), μ1) := y1
  have bq := PL_b (P := prP f l) (o := o) hdu (wf_QB hw) 6
  generalize hss : PL (prP f l) o 6 (stQ f) = s at z1 z2 hg bq
  obtain ⟨g1, ⟨g2, g3⟩, ⟨v2, v3, v4, v5⟩, ⟨v8, v9⟩, ⟨v11, v12⟩, go⟩ := hg
  have q : ∀ a, ¬ (10 ≤ a ∧ a ≤ 13) → μ1.1 a = ν.1 a := fun a ha => y4.1.2 a ha
  have hR1 : RF μ1 := hR.fr y4.1
  obtain ⟨f1, ef⟩ : ∃ f1 : Nat → Int32, f1 = fun j => if (14 ≤ j ∧ j < 14 + 3 * D) ∨ j = 10 ∨ j = 13 then g j else f j := ⟨_, rfl⟩
  have fa : ∀ j, ((14 ≤ j ∧ j < 14 + 3 * D) ∨ j = 10 ∨ j = 13) → f1 j = g j := fun j hj => by rw [ef]; exact if_pos hj
  have fb : ∀ j, ¬ ((14 ≤ j ∧ j < 14 + 3 * D) ∨ j = 10 ∨ j = 13) → f1 j = f j := fun j hj => by rw [ef]; exact if_neg hj
  let μ2 := sI μ1 9 7 (μ1.1 9 7 + 6)
  have hcr : CR D L C μ2 f1 := by
    refine ⟨RF.sI hR1, hcp.dots ⟨hL.2, hC.2⟩ (fun a ha _ => by rw [show μ2.1 a = μ1.1 a from sI_rw (by omega), q a (by omega)]) ⟨by rw [show μ2.1 9 4 = μ1.1 9 4 from sI_of (by omega), q 9 (by omega)], by rw [show μ2.1 9 6 = μ1.1 9 6 from sI_of (by omega), q 9 (by omega)]⟩ (fun j _ hj => fb j (by omega)) ⟨?_, ?_⟩ ?_ (fun d hd => ?_), hw.dots (fun j _ hj => fb j (by omega)) (fun d hd => ?_)⟩
    · rw [show μ2.1 10 0 = μ1.1 10 0 from sI_no (by omega), y4.2, fb 0 (by omega)]
      exact hcp.1.1
    · rw [show μ2.1 10 1 = μ1.1 10 1 from sI_no (by omega), z2, fa 10 (by omega), g2]
    · rw [show μ2.1 9 7 = μ1.1 9 7 + 6 from sI_at, q 9 (by omega), fa 13 (by omega), g3, hcp.2.2.2.1.2.2]
      rfl
    · obtain ⟨x1, x2, x3⟩ := z1 d hd
      obtain ⟨u1, u2, u3⟩ := g1 d hd
      rw [show μ2.1 11 = μ1.1 11 from sI_rw (by omega), show μ2.1 12 = μ1.1 12 from sI_rw (by omega), show μ2.1 13 = μ1.1 13 from sI_rw (by omega), fa _ (by omega), fa _ (by omega), fa _ (by omega), u1, u2, u3]
      exact ⟨x1, x2, x3⟩
    · obtain ⟨u1, u2, u3⟩ := g1 d hd
      obtain ⟨b1, b2⟩ := bq d hd
      rw [fa _ (by omega), fa _ (by omega), u1, u2]
      exact ⟨⟨_, by omega, b1, rfl⟩, ⟨_, by omega, b2, rfl⟩⟩
  have al : μ2.1 14 5 = f 6 := (cpl_set hcr.2.1 (j := 5) (by omega)).trans (fb 6 (by omega))
  have hx01 : (if nI (badN f l o) ≤ f 6 then (0 : Int32) else 1) = 0 ∨ (if nI (badN f l o) ≤ f 6 then (0 : Int32) else 1) = 1 := by
    split
    · exact Or.inl rfl
    · exact Or.inr rfl
  generalize hxx : (if nI (badN f l o) ≤ f 6 then (0 : Int32) else 1) = x at hx01 v3 v5 v9 v12
  obtain ⟨μ3, b1, b2, b3, b4, b5⟩ := c_book (μ := μ2) (c := c) (l := l) (p := priV f c l o w) (by omega) (by omega) hx01
  refine ⟨μ3, ?_, hcr.book hc hl b2 b3 b4 b5 ?_ ?_ ?_ ?_ ?_ ?_ ?_ ?_ (fun j hj => ?_), ?_⟩
  · unfold f_X5_printAt
    have hR2' : RF μ2 := hcr.1
    rw [e1, bd_s]
    simp (disch := omega) only [r_90 hR, r_93 hR, r_92 hR, bd_s, K15, gd_n, ix_n, r_lab hR (show l < 6 by omega), y1, l1_s]
    rw [show sI μ1 9 7 (μ1.1 9 7 + 6) = μ2 from rfl]
    simp (disch := omega) only [r_95 hR2', r_93 hR2', r_92 hR2', bd_s, K15, K16, K14, L5, gd_n, ix_n, r_lab hR2' (show l < 6 by omega), r_cus hR2' (show c < 6 by omega), al, l1_s]
    rw [hxx, b1]
    rfl
  · rw [v2, fb _ (by omega)]
  · rw [v3, fb _ (by omega)]
  · rw [v4, fb _ (by omega)]
  · rw [v5, fb _ (by omega)]
  · rw [v8, fb _ (by omega)]
  · rw [v9, fb _ (by omega)]
  · rw [v11, fb _ (by omega)]
  · rw [v12, fb _ (by omega)]
  · by_cases e : (14 ≤ j ∧ j < 14 + 3 * D) ∨ j = 10 ∨ j = 13
    · exact (fa j e).symm
    · rw [fb j e]
      exact go j (by omega) (by omega) (by omega) (by omega) (by omega) (by omega) (by omega) (by omega) (by omega)
  · refine (y4.1.mono (fun a ha => ⟨by have := ha.1; omega, by have := ha.2; omega⟩)).trans ?_
    refine FrI.trans (μ' := μ2) (FrI.rfl.sI ⟨by omega, by omega⟩) (b2.mono (fun a ha => ?_))
    have ha : a = 29 + c ∨ a = 17 + 2 * l := ha
    exact ⟨by omega, by omega⟩
theorem w_prints {c l o w : Nat} (h : CR D L C ν f) (hc : c < C) (hl : l < L) (ho : o < 24) (ew : f (86 + 10 * l) = nI w) (hw1 : 1 ≤ w) (hw2 : w ≤ 12) : f_X5_whyNotPrintAt KF ν 9 (nI c) (nI l) (nI o) = some (if whyV f D C c l o w = 0 then 0 else 3) := by
  have hL := h.2.2.2.1
  have hC := h.2.2.2.2.1
  unfold f_X5_whyNotPrintAt f_X5_whyNotAskAbout
  rw [c_hasCustomer h, bd_s, has_n hc (by omega), i10, c_hasLabel h, bd_s, has_n hl (by omega), i10, if_neg (show ¬ nI o < 0 from nI_pos (by omega)), if_pos (show nI o ≤ 23 from nI_le (b := 23) (by omega) (by omega)), l1_s, bd_s, i00, c_why h hc hl ho ew hw1 hw2]
  rfl
theorem o_prints {c l o w : Nat} (h : CR D L C ν f) (hs : SVL ν) (hc : c < C) (hl : l < L) (ho : o < 24) (ew : f (86 + 10 * l) = nI w) (hw1 : 1 ≤ w) (hw2 : w ≤ 12) (hwhy : whyV f D C c l o w = 0) (hg : PRT f g D c l (PL (prP f l) o 6 (stQ f)) (priV f c l o w) (if nI (badN f l o) ≤ f 6 then 0 else 1)) :
    ∃ ν', f_L_prints KF ν 0 (nI c) (nI l) (nI o) = some (nI (badN f l o), ν') ∧ CR D L C ν' g ∧ GR ν ν' := by
  have e0 := w_prints h hc hl ho ew hw1 hw2
  rw [if_pos hwhy] at e0
  obtain ⟨how, -, -⟩ := whyV_0 hwhy
  obtain ⟨ν1, ν2, e1, r1, e2, h2, g2⟩ := grant h hs (act := fun ν => f_X5_printAt KF ν 9 (nI c) (nI l) (nI o)) (fun ν1 h1 _ => a_print h1 hc hl ew hw1 hw2 how hg)
  refine ⟨ν2, ?_, h2, g2⟩
  have e2 : f_X5_printAt KF ν1 9 (nI c) (nI l) (nI o) = some (nI (badN f l o), ν2) := e2
  unfold f_L_prints f_X7_print
  rw [r_03 h.1, bd_s, e0, bd_s, ref0, bd_s, e1, bd_s, r_03 r1, bd_s, e2]
  rfl
theorem x_prints3 {c l o w : Nat} (h : CR D L C ν f) (hc : c < C) (hl : l < L) (ho : o < 24) (ew : f (86 + 10 * l) = nI w) (hw1 : 1 ≤ w) (hw2 : w ≤ 12) (hwhy : ¬ whyV f D C c l o w = 0) : fx_X7_print KF ν 0 (nI c) (nI l) (nI o) = some (3, ν) := by
  have e0 := w_prints h hc hl ho ew hw1 hw2
  rw [if_neg hwhy] at e0
  unfold fx_X7_print
  rw [r_03 h.1, bd_s, e0]
  rfl
theorem x_prints2 {c l : Nat} (h : CR D L C ν f) (hc : c < C) (hl : l < L) : fx_X7_print KF ν 0 (nI c) (nI l) 24 = some (2, ν) := by
  have hL := h.2.2.2.1
  have hC := h.2.2.2.2.1
  unfold fx_X7_print f_X5_whyNotPrintAt f_X5_whyNotAskAbout
  rw [r_03 h.1, bd_s, c_hasCustomer h, bd_s, has_n hc (by omega), i10, c_hasLabel h, bd_s, has_n hl (by omega), i10, if_neg (show ¬ (24 : Int32) < 0 by decide), if_neg (show ¬ (24 : Int32) ≤ 23 by decide), l1_s, bd_s, if_neg (show ¬ (2 : Int32) = 0 by decide)]
  rfl
theorem x_prints1 (h : CR D L C ν f) : fx_X7_print KF ν 0 (nI C) 0 24 = some (1, ν) := by
  have hC := h.2.2.2.2.1
  unfold fx_X7_print f_X5_whyNotPrintAt f_X5_whyNotAskAbout
  rw [r_03 h.1, bd_s, c_hasCustomer h, bd_s, has_self (by omega), i00, bd_s, if_neg (show ¬ (1 : Int32) = 0 by decide)]
  rfl
theorem w_bests {c l w : Nat} (h : CR D L C ν f) (hc : c < C) (hl : l < L) (ew : f (86 + 10 * l) = nI w) (hw1 : 1 ≤ w) (hw2 : w ≤ 12) {v : Int32} (hv : BSP f D C c l w (fun _ => True) v) : ∃ ν', f_X5_whyNotPrintAtBest KF ν 9 (nI c) (nI l) = some (if v = -1 then 3 else 0, ν') ∧ FT ν ν' := by
  have hL := h.2.2.2.1
  have hC := h.2.2.2.2.1
  obtain ⟨v', ν', e1, e2, e3⟩ := c_best h hc hl ew hw1 hw2
  have ev : v' = v := e3.one hv
  subst ev
  refine ⟨ν', ?_, e2⟩
  unfold f_X5_whyNotPrintAtBest f_X5_whyNotPair
  rw [c_hasCustomer h, bd_s, has_n hc (by omega), i10, c_hasLabel h, bd_s, has_n hl (by omega), i10, l1_s, bd_s, i00, e1]
  rfl
theorem FT.fn {μ μ' : Mm} (h : FT μ μ') : FN μ μ' := h.mono (fun a ha => ⟨ha.1, by have := ha.2; omega⟩)
theorem FT.gr {μ μ' : Mm} (h : FT μ μ') (hs : SVL μ) : GR μ μ' := ⟨hs.cg (by rw [h.2 0 (by intro h; have h : 5 ≤ 0 ∧ 0 ≤ 8 := h; omega)]) (by rw [h.1]), fun a ha => h.2 a (by intro h; have h : 5 ≤ a ∧ a ≤ 8 := h; omega), by rw [h.2 1 (by intro h; have h : 5 ≤ 1 ∧ 1 ≤ 8 := h; omega)]⟩
theorem o_bests {c l o w : Nat} (h : CR D L C ν f) (hs : SVL ν) (hc : c < C) (hl : l < L) (ho : o < 24) (ew : f (86 + 10 * l) = nI w) (hw1 : 1 ≤ w) (hw2 : w ≤ 12) (hv : BSP f D C c l w (fun _ => True) (nI o)) (hwhy : whyV f D C c l o w = 0) (hg : PRT f g D c l (PL (prP f l) o 6 (stQ f)) (priV f c l o w) (if nI (badN f l o) ≤ f 6 then 0 else 1)) :
    ∃ ν', f_L_bests KF ν 0 (nI c) (nI l) = some (nI o, ν') ∧ CR D L C ν' g ∧ GR ν ν' := by
  obtain ⟨ν0, e0, t0⟩ := w_bests h hc hl ew hw1 hw2 hv
  have n1 : ¬ nI o = -1 := m1_ne (by omega)
  rw [if_neg n1] at e0
  obtain ⟨how, -, -⟩ := whyV_0 hwhy
  have gr0 := t0.gr hs
  have h0 := h.q t0
  obtain ⟨ν1, ν2, e1, r1, e2, h2, g2⟩ := grant (g := g) (D' := D) (L' := L) (C' := C) (v := nI o) h0 gr0.1 (act := fun ν => f_X5_printAtBest KF ν 9 (nI c) (nI l)) (fun ν1 h1 _ => by
    obtain ⟨v', μb, b1, b2, b3⟩ := c_best h1 hc hl ew hw1 hw2
    have ev : v' = nI o := b3.one hv
    subst ev
    obtain ⟨ν2, z1, z2, z3⟩ := a_print (h1.q b2) hc hl ew hw1 hw2 how hg
    refine ⟨ν2, ?_, z2, b2.fn.trans z3⟩
    show f_X5_printAtBest KF ν1 9 (nI c) (nI l) = _
    unfold f_X5_printAtBest
    rw [b1, bd_s, l1_s, l1_s, if_neg n1, z1]
    rfl)
  refine ⟨ν2, ?_, h2, gr0.trans g2⟩
  have e2 : f_X5_printAtBest KF ν1 9 (nI c) (nI l) = some (nI o, ν2) := e2
  unfold f_L_bests f_X7_printBest
  rw [r_03 h.1, bd_s, e0, bd_s, l1_s, l1_s, ref0, bd_s, e1, bd_s, r_03 r1, bd_s, e2]
  rfl
theorem x_bests3 {c l w : Nat} (h : CR D L C ν f) (hs : SVL ν) (hc : c < C) (hl : l < L) (ew : f (86 + 10 * l) = nI w) (hw1 : 1 ≤ w) (hw2 : w ≤ 12) (hv : BSP f D C c l w (fun _ => True) (-1)) : ∃ ν', fx_X7_printBest KF ν 0 (nI c) (nI l) = some (3, ν') ∧ CR D L C ν' f ∧ GR ν ν' := by
  obtain ⟨ν0, e0, t0⟩ := w_bests h hc hl ew hw1 hw2 hv
  rw [if_pos rfl] at e0
  refine ⟨ν0, ?_, h.q t0, t0.gr hs⟩
  unfold fx_X7_printBest
  rw [r_03 h.1, bd_s, e0]
  rfl
theorem x_bests1 (h : CR D L C ν f) (h0 : L = 0 ∨ C = 0) : fx_X7_printBest KF ν 0 0 (nI L) = some (1, ν) := by
  have hL := h.2.2.2.1
  have hC := h.2.2.2.2.1
  have ep : f_X5_whyNotPair KF ν 9 0 (nI L) = some 1 := by
    unfold f_X5_whyNotPair
    rw [c_hasCustomer h, bd_s]
    rcases has_01 0 C with q | q
    · rw [q, i00]
    · rw [q, i10, c_hasLabel h, bd_s, has_self (by omega), i00]
      rfl
  unfold fx_X7_printBest f_X5_whyNotPrintAtBest
  rw [r_03 h.1, bd_s, ep, bd_s, if_neg (show ¬ (1 : Int32) = 0 by decide)]
  rfl
end PureOpsE
