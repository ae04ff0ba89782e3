/-! PURE: lines pass -/
section PureQ
theorem Cpl.dots {μ μ' : Mm} {f g : Nat → Int32} {D D' L C : Nat} (h : Cpl μ 9 f D L C) (hL : L ≤ 6 ∧ C ≤ 6) (e : ∀ a, 14 ≤ a → a ≤ 34 → μ'.1 a = μ.1 a) (e9 : μ'.1 9 4 = μ.1 9 4 ∧ μ'.1 9 6 = μ.1 9 6) (eg : ∀ j, j < 182 → (1 ≤ j ∧ j < 10 ∨ 86 ≤ j) → g j = f j)
    (h0 : μ'.1 10 0 = g 0 ∧ μ'.1 10 1 = g 10) (h13 : μ'.1 9 7 = g 13) (hd : ∀ d, d < D' → μ'.1 11 d = g (14 + 3 * d) ∧ μ'.1 12 d = g (14 + 3 * d + 1) ∧ μ'.1 13 d = g (14 + 3 * d + 2)) : Cpl μ' 9 g D' L C := by
  obtain ⟨-, -, p3, p4, p5, p6, p7, p8⟩ := h
  refine ⟨h0, hd, fun j hj => ?_, ⟨?_, ?_, h13⟩, fun l hl => ?_, fun l hl hl' => ?_, fun k hk j hj => ?_, fun k hk hk' => ?_⟩
  · rw [e _ (by omega) (by omega), eg _ (by omega) (by omega)]
    exact p3 j hj
  · rw [e9.1, eg _ (by omega) (by omega)]
    exact p4.1
  · rw [e9.2, eg _ (by omega) (by omega)]
    exact p4.2.1
  · rw [e (9 + 8 + 2 * l) (by omega) (by omega), e (9 + 9 + 2 * l) (by omega) (by omega), eg _ (by omega) (by omega), eg _ (by omega) (by omega), eg _ (by omega) (by omega), eg _ (by omega) (by omega)]
    exact ⟨(p5 l hl).1, fun r hr => by rw [eg _ (by omega) (by omega)]; exact (p5 l hl).2 r hr⟩
  · rw [e (9 + 8 + 2 * l) (by omega) (by omega), e (9 + 9 + 2 * l) (by omega) (by omega)]
    exact p6 l hl hl'
  · rw [e _ (by omega) (by omega), eg _ (by omega) (by omega)]
    exact p7 k hk j hj
  · rw [e (9 + 20 + k) (by omega) (by omega)]
    exact p8 k hk hk'
theorem m_coolN {D L C n : Nat} {η : Mm} (hR : RF η) (hw : WF (η.1 140) D L C) {g : Nat} (hg : η.1 140 1 = nI g) (hg' : g ≤ 30) (hn : n ≤ 20) : ∃ η', f_X8_cool_l30 KF 139 (nI n) FU η 0 = some η' ∧ FrI (fun a => a = 140) η η' ∧
    (∀ j, j ≠ 13 → (∀ x, x < D → j ≠ 14 + 3 * x) → η'.1 140 j = η.1 140 j) ∧ η'.1 140 13 = η.1 140 13 + nI n ∧ ∀ x, x < D → ∀ m, m ≤ 90 → η.1 140 (14 + 3 * x) = nI m → η'.1 140 (14 + 3 * x) = nI (m - n * g) := by
  have hD := hw.1
  obtain ⟨v, e, q⟩ := lp0 (fun m i ν => f_X8_cool_l30 KF 139 (nI n) m ν (nI i)) n (by unfold FU; omega)
    (fun i ν => FrI (fun a => a = 140) η ν ∧ (∀ j, j ≠ 13 → (∀ x, x < D → j ≠ 14 + 3 * x) → ν.1 140 j = η.1 140 j) ∧ ν.1 140 13 = η.1 140 13 + nI i ∧ ∀ x, x < D → ∀ m, m ≤ 90 → η.1 140 (14 + 3 * x) = nI m → ν.1 140 (14 + 3 * x) = nI (m - i * g))
    (fun ν => FrI (fun a => a = 140) η ν ∧ (∀ j, j ≠ 13 → (∀ x, x < D → j ≠ 14 + 3 * x) → ν.1 140 j = η.1 140 j) ∧ ν.1 140 13 = η.1 140 13 + nI n ∧ ∀ x, x < D → ∀ m, m ≤ 90 → η.1 140 (14 + 3 * x) = nI m → ν.1 140 (14 + 3 * x) = nI (m - n * g))
    (by
      rintro m i ν hi ⟨p1, p2, p3, p4⟩
      have hRν := hR.fr p1
      have e0 : ν.1 140 0 = nI D := by rw [p2 0 (by omega) (fun x _ => by omega)]; exact hD.1
      have e1 : ν.1 140 1 = nI g := by rw [p2 1 (by omega) (fun x _ => by omega)]; exact hg
      obtain ⟨ν', y1, y2, y3, y4, y5⟩ := m_cools (k := 140) (Or.inl rfl) e0 hD.2.2 e1 (by omega)
      refine Or.inr ⟨ν', ?_, p1.trans y2, fun j hj hj' => (y3 j hj hj').trans (p2 j hj hj'), ?_, fun x hx m hm em => ?_⟩
      · simp (disch := omega) only [f_X8_cool_l30, leN, if_neg (Nat.not_le.mpr hi), r_m0 hRν, bd_s, l1_s, y1, nI_succ i]
      · rw [y4, p3, nI_succ i, Int32.add_assoc]
      · rw [y5 x hx (m - i * g) (by omega) (p4 x hx m hm em), show m - i * g - g = m - (i + 1) * g by rw [Nat.succ_mul]; omega])
    (by
      rintro m ν pq
      refine ⟨ν, ?_, pq⟩
      simp (disch := omega) only [f_X8_cool_l30, leN, if_pos (Nat.le_refl n)]) η ⟨FrI.rfl, fun _ _ _ => rfl, by rw [show nI 0 = 0 from rfl, Int32.add_zero], fun x _ m _ em => by rw [em, Nat.zero_mul, Nat.sub_zero]⟩
  exact ⟨v, e, q⟩
theorem o_cool {D L C : Nat} {μ η : Mm} (h : CR D L C μ η) (a : Int32) : OP D L C η [(2, 1)] (f_X5_whyNotPassLines 9 a) (fun ν => f_X5_passLines KF ν 9 a) (f_X8_cool KF η 139 a) := by
  have bad : f_X5_whyNotPassLines 9 a = some 2 → f_X8_in a 1 20 = some 0 → OP D L C η [(2, 1)] (f_X5_whyNotPassLines 9 a) (fun ν => f_X5_passLines KF ν 9 a) (f_X8_cool KF η 139 a) := fun h1 h2 => Or.inl ⟨(2, 1), List.mem_singleton.mpr rfl, h1, by
    unfold f_X8_cool
    rw [h2, bd_s, i00, l1_s, th1, bd_s, l1_s, l1_s, i10]⟩
  by_cases q1 : a < 1
  · refine bad ?_ (in_lo q1)
    unfold f_X5_whyNotPassLines
    rw [if_pos q1]
    rfl
  by_cases q2 : 20 < a
  · refine bad ?_ (in_hi q2)
    unfold f_X5_whyNotPassLines
    rw [if_neg q1, if_neg (Int32.not_le.mpr q2)]
    rfl
  obtain ⟨n, n1, n2, rfl⟩ : bnd a 1 20 := bnd_of (by omega) q1 (by omega) q2
  refine Or.inr ⟨?_, fun μ1 η1 h1 hs _ => ?_⟩
  · unfold f_X5_whyNotPassLines
    rw [if_neg q1, if_pos (Int32.not_lt.mp q2)]
    rfl
  obtain ⟨hR, hR2, hc, hw⟩ := h1
  have hD := hw.1
  have hL := hw.2.1
  have hC := hw.2.2.1
  obtain ⟨g, -, hg, eg⟩ := hw.2.2.2.1.1
  have e10 : μ1.1 10 0 = nI D := hc.1.1.trans hD.1
  have es : μ1.1 14 0 = nI g := (cpl_set hc (j := 0) (by omega)).trans eg
  have hng : n * g ≤ 600 := Nat.mul_le_mul n2 hg
  obtain ⟨μ2, y1, y2, y3⟩ := c_lose (g := n * g) hR (Or.inl rfl) e10 hD.2.2 (by omega) (fun x hx => by rw [(cpl_dot hc hx).1]; exact (hw.2.2.2.2.1 x hx).1)
  obtain ⟨η2, z1, z2, z3, z4, z5⟩ := m_coolN hR2 hw eg hg n2
  have q : ∀ x, x ≠ 11 → μ2.1 x = μ1.1 x := fun x hx => y2.2 x hx
  have hR21 : RF (sI μ2 9 7 (μ2.1 9 7 + nI n)) := RF.sI (hR.fr y2)
  have hcr : CR D L C (sI μ2 9 7 (μ2.1 9 7 + nI n)) η2 := by
    refine ⟨hR21, hR2.fr z2, hc.dots ⟨hL.2, hC.2⟩ (fun a ha _ => by rw [sI_rw (by omega), q _ (by omega)]) ⟨by rw [sI_of (by omega), q _ (by omega)], by rw [sI_of (by omega), q _ (by omega)]⟩ (fun j _ hj => z3 j (by omega) (fun x hx => by omega)) ⟨?_, ?_⟩ ?_ (fun d hd => ?_), hw.dots (fun j _ hj => z3 j (by omega) (fun x hx => by omega)) (fun d hd => ?_)⟩
    · rw [sI_no (by omega), q _ (by omega), z3 0 (by omega) (fun x hx => by omega)]
      exact hc.1.1
    · rw [sI_no (by omega), q _ (by omega), z3 10 (by omega) (fun x hx => by omega)]
      exact hc.1.2
    · rw [sI_at, z4, q _ (by omega), hc.2.2.2.1.2.2]
    · obtain ⟨x1, x2, x3⟩ := cpl_dot hc hd
      obtain ⟨⟨m, -, hm, em⟩, -⟩ := hw.2.2.2.2.1 d hd
      rw [sI_rw (by omega), sI_rw (by omega), sI_rw (by omega), q 12 (by omega), q 13 (by omega), z3 (14 + 3 * d + 1) (by omega) (fun x hx => by omega), z3 (14 + 3 * d + 2) (by omega) (fun x hx => by omega), z5 d hd m hm em]
      exact ⟨y3 d hd m hm (x1.trans em), x2, x3⟩
    · obtain ⟨⟨m, -, hm, em⟩, b⟩ := hw.2.2.2.2.1 d hd
      rw [z5 d hd m hm em, z3 (14 + 3 * d + 1) (by omega) (fun x hx => by omega)]
      exact ⟨⟨m - n * g, by omega, by omega, rfl⟩, b⟩
  have n1' := c_heatSum hcr
  have n2' := m_sumOf (j := 0) hcr.2.1 hcr.2.2.2 (by omega)
  have hb : bnd (Sm (fun d => η2.1 140 (14 + 3 * d)) D) 0 (D * 90) := Sm_bnd (fun d hd => (hcr.2.2.2.2.2.2.2.1 d hd).1) (by have := hD.2.2; omega)
  have hD2 := hD.2.2
  refine ⟨_, _, η2, D, L, C, ?_, ?_, hcr, (y2.mono (fun a ha => by have ha : a = 11 := ha; exact ⟨by omega, by omega⟩)).sI ⟨by omega, by omega⟩, z2.mono (fun a ha => Or.inl ha), bnd0 hb (by omega)⟩
  · show f_X5_passLines KF μ1 9 (nI n) = _
    unfold f_X5_passLines
    have y1' : f_X3_lose KF μ1 10 (nI n * nI g) = some μ2 := by rw [pk_mul]; exact y1
    simp (disch := omega) only [r_90 hR, r_92 hR, bd_s, L0, K14, gd_n, ix_n, es, y1', l1_s, r_90 hR21, n1']
  · unfold f_X8_cool
    have hin : f_X8_in (nI n) 1 20 = some 1 := in_in q1 q2
    rw [hin, bd_s, i10, l1_s, th0, bd_s, l1_s, l1_s, i00, hs, bd_s, z1, bd_s, l1_s, show f_X8_sumOf KF η2 139 0 = some _ from n2']
    rfl
end PureQ
