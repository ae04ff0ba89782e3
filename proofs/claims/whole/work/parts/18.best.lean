/-! PURE: what would be: the trial head and the played row; the best place; how often -/
section PureF
theorem sIr_at {μ : Mm} {k : Nat} {g : Nat → Int32} : (sIr μ k g).1 k = g := upR_self _
theorem sIr_no {μ : Mm} {k a : Nat} {g : Nat → Int32} (h : a ≠ k) : (sIr μ k g).1 a = μ.1 a := upR_row _ h
theorem rf_sIr {K : Nat → Nat × Nat} {μ : Mm} {k j a c : Nat} {g : Nat → Int32} : rf K (sIr μ a g) k j c = rf K μ k j c := rfl
theorem FrI.sIr {S : Nat → Prop} {μ μ' : Mm} (h : FrI S μ μ') {k : Nat} {g : Nat → Int32} (hk : S k) : FrI S μ (sIr μ' k g) := ⟨h.1, fun a ha => (sIr_no (fun e => ha (by rw [e]; exact hk))).trans (h.2 a ha)⟩
theorem Cpl.fr {μ μ' : Mm} {b D L C : Nat} {f : Nat → Int32} (hD : L ≤ 6 ∧ C ≤ 6) (h : Cpl μ b f D L C) (e : ∀ a, b ≤ a → a ≤ b + 25 → μ'.1 a = μ.1 a) : Cpl μ' b f D L C := by
  obtain ⟨⟨h1, h1'⟩, h2, h3, ⟨h4, h4', h4''⟩, h5, h6, h7, h8⟩ := h
  refine ⟨⟨by rw [e _ (by omega) (by omega)]; exact h1, by rw [e _ (by omega) (by omega)]; exact h1'⟩, fun d hd => ?_, fun j hj => ?_, ⟨by rw [e _ (by omega) (by omega)]; exact h4, by rw [e _ (by omega) (by omega)]; exact h4', by rw [e _ (by omega) (by omega)]; exact h4''⟩, fun l hl => ?_, fun l hl hl' => ?_, fun k hk j hj => ?_, fun k hk hk' => ?_⟩
  · rw [e (b + 2) (by omega) (by omega), e (b + 3) (by omega) (by omega), e (b + 4) (by omega) (by omega)]
    exact h2 d hd
  · rw [e _ (by omega) (by omega)]
    exact h3 j hj
  · rw [e (b + 8 + 2 * l) (by omega) (by omega), e (b + 9 + 2 * l) (by omega) (by omega)]
    exact h5 l hl
  · rw [e (b + 8 + 2 * l) (by omega) (by omega), e (b + 9 + 2 * l) (by omega) (by omega)]
    exact h6 l hl hl'
  · rw [e _ (by omega) (by omega)]
    exact h7 k hk j hj
  · rw [e (b + 20 + k) (by omega) (by omega)]
    exact h8 k hk hk'
/-- what a question may change -/
def FT (μ μ' : Mm) : Prop := FrI (fun a => 5 ≤ a ∧ a ≤ 8) μ μ'
def FW (η η' : Mm) : Prop := FrI (fun a => a = 141) η η'
theorem CR.q {D L C : Nat} {μ η μ' η' : Mm} (h : CR D L C μ η) (h1 : FT μ μ') (h2 : FW η η') : CR D L C μ' η' := by
  have e : η'.1 140 = η.1 140 := h2.2 140 (by intro h; have h : 140 = 141 := h; omega)
  refine ⟨h.1.fr h1, h.2.1.fr h2, ?_, ?_⟩
  · rw [e]
    exact h.2.2.1.fr ⟨h.2.2.2.2.1.2, h.2.2.2.2.2.1.2⟩ (fun a ha _ => h1.2 a (by intro h; have h : 5 ≤ a ∧ a ≤ 8 := h; omega))
  · rw [e]
    exact h.2.2.2
theorem m_copies {η : Mm} (hR : RF η) : ∃ η', f_X8_copies KF η 139 = some η' ∧ FW η η' ∧ ∀ j, j < 182 → η'.1 141 j = η.1 140 j := by
  obtain ⟨v, e, q1, q2⟩ := lp0 (fun n d ν => f_X8_copies_l2 KF 139 n ν (nI d)) 182 (by decide)
    (fun d ν => FW η ν ∧ ∀ j, j < d → ν.1 141 j = η.1 140 j) (fun ν => FW η ν ∧ ∀ j, j < 182 → ν.1 141 j = η.1 140 j)
    (by
      rintro n d ν hd ⟨p1, p2⟩
      have hRν := hR.fr p1
      have e0 : ν.1 140 = η.1 140 := p1.2 140 (by intro h; have h : 140 = 141 := h; omega)
      refine Or.inr ⟨sI ν 141 d (η.1 140 d), ?_, p1.sI rfl, fun j hj => ?_⟩
      · simp (disch := omega) only [f_X8_copies_l2, L182, leN, if_neg (Nat.not_le.mpr hd), r_m1 hRν, r_m0 hRν, bd_s, l1_s, K140, K141, gd_n, ix_n, e0, nI_succ d]
      · by_cases e1 : j = d
        · rw [e1, sI_at]
        · rw [sI_of e1]
          exact p2 j (by omega))
    (by
      rintro n ν ⟨p1, p2⟩
      refine ⟨ν, ?_, p1, p2⟩
      simp (disch := omega) only [f_X8_copies_l2, L182, leN, if_pos (Nat.le_refl 182)]) η ⟨FrI.rfl, fun j hj => absurd hj (by omega)⟩
  refine ⟨v, ?_, q1, q2⟩
  unfold f_X8_copies
  rw [show f_X8_copies_l2 KF 139 FU η 0 = some v from e]
  rfl
theorem c_takePart {μ : Mm} (hR : RF μ) {o w : Nat} (hw : o + w ≤ 24) : ∃ μ', f_X3_takePart KF μ 5 10 (nI o) (nI w) = some μ' ∧ FT μ μ' ∧ μ'.1 5 0 = nI w ∧ μ'.1 5 1 = μ.1 5 1 ∧ μ'.1 8 = μ.1 8 ∧ ∀ x, x < w → μ'.1 6 x = μ.1 11 (x + o) ∧ μ'.1 7 x = μ.1 12 (x + o) := by
  have ok : okc (nI o) (nI 0) (nI w) 24 24 := by
    refine ⟨nI_pos (by omega), nI_pos (by omega), nI_pos (by omega), ?_, ?_⟩
    · rw [ix_n (by omega), ix_n (by omega)]
      omega
    · rw [ix_n (by omega), ix_n (by omega)]
      omega
  refine ⟨sIr (sIr (sI μ 5 0 (nI w)) 6 (va_cpy (μ.1 11) (μ.1 6) o 0 w)) 7 (va_cpy (μ.1 12) (μ.1 7) o 0 w), ?_, ?_, ?_, ?_, ?_, fun x hx => ?_⟩
  · unfold f_X3_takePart
    simp (disch := omega) only [l1_s, rf_sI, rf_sIr, r_102 hR, r_103 hR, r_52 hR, r_53 hR, bd_s, K6, K7, K11, K12, L0, gd_t ok, ix_n, sI_rw, sIr_no]
  · exact ((FrI.rfl.sI (by constructor <;> omega)).sIr (by constructor <;> omega)).sIr (by constructor <;> omega)
  · rw [sIr_no (by omega), sIr_no (by omega), sI_at]
  · rw [sIr_no (by omega), sIr_no (by omega), sI_of (by omega)]
  · rw [sIr_no (by omega), sIr_no (by omega), sI_rw (by omega)]
  · constructor
    · rw [sIr_no (by omega), sIr_at]
      unfold va_cpy
      rw [if_pos (by omega), show o + (x - 0) = x + o by omega]
    · rw [sIr_at]
      unfold va_cpy
      rw [if_pos (by omega), show o + (x - 0) = x + o by omega]
theorem asc (a b : Int32) : a = b + (a - b) := by rw [Int32.add_comm, Int32.sub_add_cancel]
theorem wf_PN {f : Nat → Int32} {D L C l k : Nat} (hw : WF f D L C) (hl : l < L) (hk : k = 140 ∨ k = 141) : ∃ w bk, f (86 + 10 * l) = nI w ∧ f (86 + 10 * l + 1) = nI bk ∧ PN l k w bk D f := by
  have hL := hw.2.1
  obtain ⟨⟨w, h1, h2, h3, -⟩, ⟨bk, b1, b2, b3⟩⟩ := hw.2.2.2.2.2.1 l hl
  obtain ⟨s1, s2, s3, s4, -⟩ := hw.2.2.2.1
  exact ⟨w, bk, h3, b3, by omega, hk, ⟨h1, h2⟩, ⟨b1, b2⟩, hw.1.2.2, s1, s3, s4⟩
theorem CR_PC {D L C l w bk : Nat} {μ η : Mm} (h : CR D L C μ η) (hl : l < L) (ew : η.1 140 (86 + 10 * l) = nI w) (eb : η.1 140 (86 + 10 * l + 1) = nI bk) : PC l 140 w bk D (η.1 140) (fun r => η.1 140 (86 + 10 * l + (2 + r))) μ η := by
  obtain ⟨hR, hR2, hc, hw⟩ := h
  obtain ⟨a1, a2, -, -⟩ := cpl_lab hc hl
  exact ⟨hR, hR2, fun j hj => cpl_set hc hj, ⟨a1.trans ew, a2.trans eb, fun r hr => cpl_row hc hl hr⟩, fun _ _ _ => rfl, hw.1.1, ew, eb, fun _ _ => rfl⟩
/-- how many cells couldn't be read; and both heads stand ready to play on -/
theorem b_part {D L C l o w bk : Nat} {μ η : Mm} (h : CR D L C μ η) (hl : l < L) (ew : η.1 140 (86 + 10 * l) = nI w) (eb : η.1 140 (86 + 10 * l + 1) = nI bk) (ho : o + w ≤ D) :
    ∃ μ' η' c0 c1, f_X3_takePart KF μ 5 10 (nI o) (nI w) = some μ' ∧ f_X8_copies KF η 139 = some η' ∧ FT μ μ' ∧ FW η η' ∧ PC l 141 w bk D (η.1 140) (fun r => η.1 140 (86 + 10 * l + (2 + r))) μ' η' ∧ PR 5 141 o w c0 c1 μ' η' := by
  have hPC := CR_PC h hl ew eb
  obtain ⟨hR, hR2, hc, hw⟩ := h
  have hD := hw.1
  have hL := hw.2.1
  obtain ⟨μ', e1, t1, t2, t3, t4, t5⟩ := c_takePart hR (o := o) (w := w) (by omega)
  obtain ⟨η', e2, u1, u2⟩ := m_copies hR2
  have n140 : η'.1 140 = η.1 140 := u1.2 140 (by intro h; have h : 140 = 141 := h; omega)
  have nμ : ∀ a, 9 ≤ a → μ'.1 a = μ.1 a := fun a ha => t1.2 a (by intro h; have h : 5 ≤ a ∧ a ≤ 8 := h; omega)
  refine ⟨μ', η', fun x => μ.1 8 x - η'.1 141 (14 + 3 * (x + o) + 2), μ.1 5 1 - η'.1 141 10, e1, e2, t1, u1, ?_, t2, fun x hx => ?_, ?_⟩
  · obtain ⟨-, -, p3, ⟨p4, p4', p4''⟩, p5, p6, p7, p7', p7''⟩ := hPC
    refine ⟨hR.fr t1, hR2.fr u1, fun j hj => by rw [nμ 14 (by omega)]; exact p3 j hj, ⟨by rw [nμ _ (by omega)]; exact p4, by rw [nμ _ (by omega)]; exact p4', fun r hr => by rw [nμ _ (by omega)]; exact p4'' r hr⟩,
      fun j hj hj' => by rw [u2 j (by omega)], by rw [u2 0 (by omega)]; exact p6, by rw [n140]; exact p7, by rw [n140]; exact p7', fun r hr => by rw [n140]⟩
  · obtain ⟨x1, x2⟩ := t5 x hx
    obtain ⟨y1, y2, -⟩ := cpl_dot hc (d := x + o) (by omega)
    rw [x1, x2, y1, y2, u2 (14 + 3 * (x + o)) (by omega), u2 (14 + 3 * (x + o) + 1) (by omega), t4]
    exact ⟨⟨rfl, rfl, asc _ _⟩, hw.2.2.2.2.1 (x + o) (by omega)⟩
  · rw [t3]
    exact asc _ _
theorem FC5 {μ μ' : Mm} (h : FC 5 μ μ') : FT μ μ' := h.1
theorem FM141 {μ μ' : Mm} (h : FM 141 μ μ') : FW μ μ' := h.1
theorem b_unread {D L C l o : Nat} {μ η : Mm} (h : CR D L C μ η) (hl : l < L) (ho : ∀ w, η.1 140 (86 + 10 * l) = nI w → w ≤ 12 → o + w ≤ D) :
    ∃ v μ' η', f_X5_unreadableAt KF μ 9 (nI l) (nI o) = some (v, μ') ∧ f_X8_badOf KF η 139 (nI l) (nI o) = some (v, η') ∧ FT μ μ' ∧ FW η η' := by
  obtain ⟨w, bk, ew, eb, hN⟩ := wf_PN h.2.2.2 hl (k := 141) (Or.inr rfl)
  have how := ho w ew hN.2.2.1.2
  have hl6 := hN.1
  obtain ⟨μ1, η1, c0, c1, e1, e2, t1, t2, hPC, hPR⟩ := b_part h hl ew eb how
  obtain ⟨v, μ2, η2, y1, y2, -, y4, y5, -⟩ := b_play (q := 0) hN (Or.inr rfl) hPC hPR (by omega) (by omega)
  rw [Nat.zero_add] at y2
  have a1 := (cpl_lab h.2.2.1 hl).1.trans ew
  refine ⟨v, μ2, η2, ?_, ?_, t1.trans (FC5 y4), t2.trans (FM141 y5)⟩
  · unfold f_X5_unreadableAt
    have hR := h.1
    have hR1 := hPC.1
    have y1' : f_X3_printRows KF μ1 5 (17 + 2 * l) 0 14 = some (v, μ2) := y1
    simp (disch := omega) only [r_90 hR, r_91 hR, r_93 hR, bd_s, l1_s, K15, gd_n, ix_n, r_lab hR hl6, a1, e1, r_91 hR1, r_93 hR1, r_lab hR1 hl6, r_92 hR1, y1']
  · unfold f_X8_badOf
    simp only [e2, bd_s, l1_s, r_m1 hPC.2.1, y2]
theorem b_best {D L C c l : Nat} {μ η : Mm} (h : CR D L C μ η) (hc : c < C) (hl : l < L) :
    ∃ v μ' η', f_X5_bestPlace KF μ 9 (nI c) (nI l) = some (v, μ') ∧ f_X8_best KF η 139 (nI c) (nI l) = some (v, η') ∧ FT μ μ' ∧ FW η η' ∧ (v = -1 ∨ ∃ o, o < 24 ∧ v = nI o ∧ ∀ w, η.1 140 (86 + 10 * l) = nI w → w ≤ 12 → o + w ≤ D) := by
  obtain ⟨a, b, e1, e2, z⟩ := lpp (fun n o (t : Mm × Int32 × Int32 × Int32) => f_X5_bestPlace_l11 KF 9 (nI c) (nI l) n t.1 t.2.1 t.2.2.1 t.2.2.2 (nI o)) (fun n o (t : Mm × Int32 × Int32 × Int32) => f_X8_best_l11 KF 139 (nI c) (nI l) n t.1 t.2.1 t.2.2.1 t.2.2.2 (nI o)) 24
    (fun o t u => t.2 = u.2 ∧ FT μ t.1 ∧ FW η u.1 ∧ (t.2.1 = -1 ∨ ∃ o, o < 24 ∧ t.2.1 = nI o ∧ ∀ w, η.1 140 (86 + 10 * l) = nI w → w ≤ 12 → o + w ≤ D))
    (fun a b => a.1 = b.1 ∧ FT μ a.2 ∧ FW η b.2 ∧ (a.1 = -1 ∨ ∃ o, o < 24 ∧ a.1 = nI o ∧ ∀ w, η.1 140 (86 + 10 * l) = nI w → w ≤ 12 → o + w ≤ D))
    (by
      rintro n o ⟨μ', b, u, p⟩ ⟨η', b', u', p'⟩ ho ⟨q0, q1, q2, q3⟩
      have q0a : (b, u, p) = (b', u', p') := q0
      obtain ⟨q0b, q0c⟩ := Prod.mk.inj q0a
      obtain ⟨q0d, q0e⟩ := Prod.mk.inj q0c
      clear q0 q0a q0c
      subst q0b q0d q0e
      have q1 : FT μ μ' := q1
      have q2 : FW η η' := q2
      have q3 : b = -1 ∨ ∃ o, o < 24 ∧ b = nI o ∧ ∀ w, η.1 140 (86 + 10 * l) = nI w → w ≤ 12 → o + w ≤ D := q3
      have e140 : η'.1 140 = η.1 140 := q2.2 140 (by intro h; have h : 140 = 141 := h; omega)
      refine Or.inr ?_
      have h' := h.q q1 q2
      obtain ⟨v, w1, w2, w3, w4⟩ := b_why h' hc hl ho
      simp (disch := omega) only [f_X5_bestPlace_l11, f_X8_best_l11, show (23 : Int32) = nI 23 by decide +kernel, L24, ltN, leN, if_neg (show ¬ 23 < o by omega), if_neg (Nat.not_le.mpr ho), w1, w2, bd_s, l1_s]
      by_cases t : v = 0
      · rw [if_pos t, if_pos t]
        have hin := w4 t
        obtain ⟨x, μ1, η1, y1, y2, y3, y4⟩ := b_unread h' hl hin
        have h1 := h'.q y3 y4
        have e1401 : η1.1 140 = η'.1 140 := y4.2 140 (by intro h; have h : 140 = 141 := h; omega)
        obtain ⟨pr, z1, z2⟩ := b_price h1 hc hl (o := o) (by rw [e1401]; exact hin)
        rw [e140] at hin
        simp only [y1, y2, z1, z2, bd_s, l1_s]
        have ok : nI o = -1 ∨ ∃ o', o' < 24 ∧ nI o = nI o' ∧ ∀ w, η.1 140 (86 + 10 * l) = nI w → w ≤ 12 → o' + w ≤ D := Or.inr ⟨o, ho, rfl, hin⟩
        by_cases t1 : b = -1
        · simp only [if_pos t1, if_neg (show ¬ (1 : Int32) = 0 by decide), ← nI_succ o]
          exact ⟨(μ1, nI o, x, pr), (η1, nI o, x, pr), rfl, rfl, rfl, q1.trans y3, q2.trans y4, ok⟩
        · by_cases t2 : x < u
          · simp only [if_neg t1, if_pos t2, if_neg (show ¬ (1 : Int32) = 0 by decide), ← nI_succ o]
            exact ⟨(μ1, nI o, x, pr), (η1, nI o, x, pr), rfl, rfl, rfl, q1.trans y3, q2.trans y4, ok⟩
          · by_cases t3 : x = u
            · by_cases t4 : p ≤ pr
              · simp only [if_neg t1, if_neg t2, if_pos t3, if_pos t4, if_true, ← nI_succ o]
                exact ⟨(μ1, b, u, p), (η1, b, u, p), rfl, rfl, rfl, q1.trans y3, q2.trans y4, q3⟩
              · simp only [if_neg t1, if_neg t2, if_pos t3, if_neg t4, if_neg (show ¬ (1 : Int32) = 0 by decide), ← nI_succ o]
                exact ⟨(μ1, nI o, x, pr), (η1, nI o, x, pr), rfl, rfl, rfl, q1.trans y3, q2.trans y4, ok⟩
            · simp only [if_neg t1, if_neg t2, if_neg t3, if_true, ← nI_succ o]
              exact ⟨(μ1, b, u, p), (η1, b, u, p), rfl, rfl, rfl, q1.trans y3, q2.trans y4, q3⟩
      · rw [if_neg t, if_neg t, ← nI_succ o]
        exact ⟨(μ', b, u, p), (η', b, u, p), rfl, rfl, rfl, q1, q2, q3⟩)
    (by
      rintro n ⟨μ', b, u, p⟩ ⟨η', b', u', p'⟩ ⟨q0, q1, q2, q3⟩
      have q0a : (b, u, p) = (b', u', p') := q0
      obtain ⟨q0b, q0c⟩ := Prod.mk.inj q0a
      clear q0 q0a q0c
      subst q0b
      refine ⟨(b, μ'), (b, η'), ?_, ?_, rfl, q1, q2, q3⟩
      · simp (disch := omega) only [f_X5_bestPlace_l11, show (23 : Int32) = nI 23 by decide +kernel, ltN, if_pos (show 23 < 24 by omega)]
      · simp (disch := omega) only [f_X8_best_l11, L24, leN, if_pos (Nat.le_refl 24)]) 24 0 (μ, -1, 0, 0) (η, -1, 0, 0) FU (by omega) (by unfold FU; omega) ⟨rfl, FrI.rfl, FrI.rfl, Or.inl rfl⟩
  obtain ⟨a1, μ'⟩ := a
  obtain ⟨b1, η'⟩ := b
  obtain ⟨z0, z1, z2, z3⟩ := z
  have z0 : a1 = b1 := z0
  subst z0
  refine ⟨a1, μ', η', ?_, ?_, z1, z2, z3⟩
  · unfold f_X5_bestPlace
    rw [show f_X5_bestPlace_l11 KF 9 (nI c) (nI l) FU μ (-1) 0 0 0 = some (a1, μ') from e1]
    rfl
  · unfold f_X8_best
    rw [show f_X8_best_l11 KF 139 (nI c) (nI l) FU η (-1) 0 0 0 = some (a1, η') from e2]
    rfl
end PureF
