/-! PURE: print at the best place -/
section PureV
def OPB (D L C : Nat) (μ η : Mm) (pl : List (Nat × Nat)) (why : Option (Int32 × Mm)) (act : Mm → Option (Int32 × Mm)) (ref : Option (Int32 × Mm)) : Prop :=
  (∃ ck μ' η', ck ∈ pl ∧ why = some (nI ck.1, μ') ∧ ref = some (0, sI η' 139 7 (nI ck.2)) ∧ FT μ μ' ∧ FW η η') ∨
  (∃ μ' η', why = some (0, μ') ∧ FT μ μ' ∧ FW η η' ∧ ∀ μ1 η1, CR D L C μ1 η1 → f_X8_saves KF (sI η' 139 7 0) 139 = some η1 → η1.1 140 = η.1 140 →
    ∃ v μ2 η2 D' L' C', act μ1 = some (v, μ2) ∧ ref = some (v, η2) ∧ CR D' L' C' μ2 η2 ∧ FN μ1 μ2 ∧ FR η1 η2 ∧ ¬ v < 0)
theorem FT.fn {μ μ' : Mm} (h : FT μ μ') : FN μ μ' := h.mono (fun a ha => ⟨ha.1, by have := ha.2; omega⟩)
theorem b_pair {D L C : Nat} {μ η : Mm} (h : CR D L C μ η) (a b : Int32) : ∃ k, k < 2 ∧ f_X5_whyNotPair KF μ 9 a b = some (nI k) ∧ f_X8_wrong KF η 139 a b 0 = some (nI k) ∧ (k = 0 → ∃ c l, (a = nI c ∧ c < C) ∧ b = nI l ∧ l < L) := by
  have hL := h.2.2.2.2.1
  have hC := h.2.2.2.2.2.1
  have hh := c_hasCustomer h a
  have hm := m_isCustomer h.2.1 h.2.2.2 a
  have hh2 := c_hasLabel h b
  have hm2 := m_isLabel h.2.1 h.2.2.2 b
  by_cases q : has a C = 0
  · refine ⟨1, by omega, ?_, ?_, fun h => absurd h (by omega)⟩
    · unfold f_X5_whyNotPair
      rw [hh, bd_s, if_pos q]
      rfl
    · unfold f_X8_wrong
      rw [hm, bd_s, if_pos q]
      rfl
  obtain ⟨c, hc, rfl, q1⟩ := has_yes q (by omega)
  by_cases r : has b L = 0
  · refine ⟨1, by omega, ?_, ?_, fun h => absurd h (by omega)⟩
    · unfold f_X5_whyNotPair
      rw [hh, bd_s, q1, i10, hh2, bd_s, if_pos r]
      rfl
    · unfold f_X8_wrong
      rw [hm, bd_s, q1, i10, hm2, bd_s, if_pos r]
      rfl
  obtain ⟨l, hl, rfl, r1⟩ := has_yes r (by omega)
  refine ⟨0, by omega, ?_, ?_, fun _ => ⟨c, l, ⟨rfl, hc⟩, rfl, hl⟩⟩
  · unfold f_X5_whyNotPair
    rw [hh, bd_s, q1, i10, hh2, bd_s, r1, i10]
    rfl
  · unfold f_X8_wrong
    rw [hm, bd_s, q1, i10, hm2, bd_s, r1, i10]
    rfl
theorem o_printBest {D L C : Nat} {μ η : Mm} (h : CR D L C μ η) (a b : Int32) : OPB D L C μ η [(1, 1), (3, 2)] (f_X5_whyNotPrintAtBest KF μ 9 a b) (fun ν => f_X5_printAtBest KF ν 9 a b) (f_X8_printBest KF η 139 a b) := by
  obtain ⟨k, hk, e1, e2, e3⟩ := b_pair h a b
  by_cases k0 : k = 0
  · subst k0
    obtain ⟨c, l, ⟨rfl, hc⟩, rfl, hl⟩ := e3 rfl
    obtain ⟨v, μ', η', y1, y2, y3, y4, y5⟩ := b_best h hc hl
    have ew : f_X5_whyNotPrintAtBest KF μ 9 (nI c) (nI l) = some (if v = -1 then 3 else 0, μ') := by
      unfold f_X5_whyNotPrintAtBest
      rw [e1, bd_s, show (nI 0 : Int32) = 0 from rfl, i00, y1]
      rfl
    by_cases v1 : v = -1
    · refine Or.inl ⟨(3, 2), μ', η', m2m.2, by rw [ew, if_pos v1]; rfl, ?_, y3, y4⟩
      unfold f_X8_printBest
      rw [e2, bd_s, if_pos (show nI 0 ≤ 0 by decide), y2, bd_s, l1_s, l1_s, if_pos (show nI 0 ≤ 0 by decide), if_pos v1, l1_s, th2, bd_s, l1_s, l1_s, i10]
    · obtain ⟨o, ho, rfl, hin⟩ : ∃ o, o < 24 ∧ v = nI o ∧ ∀ w, η.1 140 (86 + 10 * l) = nI w → w ≤ 12 → o + w ≤ D := by
        rcases y5 with q | q
        · exact absurd q v1
        · exact q
      refine Or.inr ⟨μ', η', by rw [ew, if_neg v1], y3, y4, fun μ1 η1 h1 hs e140 => ?_⟩
      have hx : CR D L C μ η1 := h.cg h.1 h1.2.1 (fun _ _ _ => rfl) (fun j _ => by rw [e140])
      obtain ⟨va, μa, ηa, a1, a2, -⟩ := b_best hx hc hl
      obtain ⟨vb, μb, ηb, b1, b2, b3, b4, -⟩ := b_best h1 hc hl
      have t1 : va = nI o := by
        rw [y1] at a1
        exact (Prod.mk.inj (Option.some.inj a1)).1.symm
      have t2 : vb = va := by
        rw [a2] at b2
        exact (Prod.mk.inj (Option.some.inj b2)).1.symm
      have hvb : vb = nI o := t2.trans t1
      subst hvb
      have hq : CR D L C μb η1 := h1.q b3 FrI.rfl
      obtain ⟨x, μ2, η2, z1, z2, z3, z4, z5, z6⟩ := b_print hq hc hl (o := o) (by rw [e140]; exact hin)
      refine ⟨nI o, μ2, η2, D, L, C, ?_, ?_, z3, b3.fn.trans z4, z5, nI_pos (by omega)⟩
      · show f_X5_printAtBest KF μ1 9 (nI c) (nI l) = _
        unfold f_X5_printAtBest
        rw [b1, bd_s, l1_s, l1_s, if_neg v1, z1]
        rfl
      · unfold f_X8_printBest
        rw [e2, bd_s, if_pos (show nI 0 ≤ 0 by decide), y2, bd_s, l1_s, l1_s, if_pos (show nI 0 ≤ 0 by decide), if_neg v1, l1_s, th0, bd_s, l1_s, l1_s, i00, hs, bd_s, z2, bd_s, l1_s, l1_s, if_pos (Int32.not_lt.mp (bnd0 z6 (by omega)))]
        rfl
  · have k1 : k = 1 := by omega
    subst k1
    refine Or.inl ⟨(1, 1), μ, η, m2m.1, ?_, ?_, FrI.rfl, FrI.rfl⟩
    · unfold f_X5_whyNotPrintAtBest
      rw [e1]
      rfl
    · unfold f_X8_printBest
      rw [e2, bd_s, if_neg (show ¬ nI 1 ≤ 0 by decide), th1, bd_s, l1_s, l1_s, i10]
end PureV
