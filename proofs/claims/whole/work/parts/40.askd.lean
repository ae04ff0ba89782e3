/-! PURE: the question how often -/
section PureZ3
theorem q_readableFor {D L C : Nat} {μ η : Mm} (h : CR D L C μ η) (a b e : Int32) : QT μ η [(1, 1), (2, 2)] (f_X7_readableFor KF μ 0 a b e) (fx_X7_readableFor KF μ 0 a b e) (f_X8_readableFor KF η 139 a b e) := by
  obtain ⟨k, hk, e1, e2, e3⟩ := b_ask h a b e
  by_cases k0 : k = 0
  · subst k0
    obtain ⟨c, l, o, ⟨rfl, hc⟩, ⟨rfl, hl⟩, rfl, ho⟩ := e3 rfl
    obtain ⟨v, y1, y2, y3, y4⟩ := b_why (h.s7 0) hc hl ho
    by_cases v0 : v = 0
    · obtain ⟨p, μ', ηc, η', z1, z2, z2', z3, z4⟩ := b_often (h.s7 0) hl (y4 v0)
      refine Or.inl ⟨p, μ', η', ?_, ?_, z3, z4⟩
      · unfold f_X7_readableFor
        rw [r_03 h.1, bd_s, e1, bd_s, show f_X7_refuse (nI 0) = some () from rfl, bd_s, bd_s, y1, bd_s, if_pos v0, bd_s, z1]
        rfl
      · unfold f_X8_readableFor
        rw [e2, bd_s, show f_X8_throwsAt KF η 139 (nI 0) = some (0, sI η 139 7 0) from th0, bd_s, l1_s, l1_s, i00, y2, bd_s, if_pos ((vle y3).mpr v0), z2, bd_s, z2']
        rfl
    · refine Or.inl ⟨-1, μ, sI η 139 7 0, ?_, ?_, FrI.rfl, FrI.rfl⟩
      · unfold f_X7_readableFor
        rw [r_03 h.1, bd_s, e1, bd_s, show f_X7_refuse (nI 0) = some () from rfl, bd_s, bd_s, y1, bd_s, if_neg v0]
      · unfold f_X8_readableFor
        rw [e2, bd_s, show f_X8_throwsAt KF η 139 (nI 0) = some (0, sI η 139 7 0) from th0, bd_s, l1_s, l1_s, i00, y2, bd_s, if_neg (fun q => v0 ((vle y3).mp q))]
  · refine Or.inr ⟨(k, k), m12 (by omega), ?_, ?_⟩
    · unfold fx_X7_readableFor
      rw [r_03 h.1, bd_s, e1]
      rfl
    · unfold f_X8_readableFor
      rw [e2, bd_s, thk (by omega), bd_s, l1_s, l1_s, i10]
end PureZ3
