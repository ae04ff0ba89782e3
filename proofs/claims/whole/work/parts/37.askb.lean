/-! PURE: questions: reason, price, unreadable, the best offset, the most worn -/
section PureY
/-- a question that may change the trial head and the played row -/
def QT (μ η : Mm) (pl : List (Nat × Nat)) (n : Option (Int32 × Mm)) (x : Option (Int32 × Mm)) (m : Option (Int32 × Mm)) : Prop :=
  (∃ v μ' η', n = some (v, μ') ∧ m = some (v, η') ∧ FT μ μ' ∧ FW (sI η 139 7 0) η') ∨ ∃ ck, ck ∈ pl ∧ x = some (nI ck.1, μ) ∧ m = some (0, sI η 139 7 (nI ck.2))
theorem vle {v : Int32} (h : v = 0 ∨ 0 < v) : (v ≤ 0 ↔ v = 0) := by
  rcases h with rfl | h
  · exact ⟨fun _ => rfl, fun _ => by decide⟩
  · exact ⟨fun q => absurd q (Int32.not_le.mpr h), fun q => absurd h (by rw [q]; decide)⟩
theorem thk {η : Mm} {k : Nat} (h : k = 1 ∨ k = 2) : f_X8_throwsAt KF η 139 (nI k) = some (1, sI η 139 7 (nI k)) := by
  rcases h with rfl | rfl
  · exact th1
  · exact th2
theorem m12 {k : Nat} (h : k = 1 ∨ k = 2) : (k, k) ∈ [((1 : Nat), (1 : Nat)), (2, 2)] := by
  rcases h with rfl | rfl
  · exact m2m.1
  · exact m2m.2
theorem q_reason {D L C : Nat} {μ η : Mm} (h : CR D L C μ η) (a b e : Int32) : QU μ η [(1, 1), (2, 2)] (f_X7_reason KF μ 0 a b e) (fx_X7_reason KF μ 0 a b e) (f_X8_reason KF η 139 a b e) := by
  obtain ⟨k, hk, e1, e2, e3⟩ := b_ask h a b e
  by_cases k0 : k = 0
  · subst k0
    obtain ⟨c, l, o, ⟨rfl, hc⟩, ⟨rfl, hl⟩, rfl, ho⟩ := e3 rfl
    obtain ⟨v, y1, y2, -⟩ := b_why (h.s7 0) hc hl ho
    refine Or.inl ⟨v, ?_, ?_⟩
    · unfold f_X7_reason
      rw [r_03 h.1, bd_s, e1, bd_s, show f_X7_refuse (nI 0) = some () from rfl, bd_s, bd_s, y1]
      rfl
    · unfold f_X8_reason
      rw [e2, bd_s, show f_X8_throwsAt KF η 139 (nI 0) = some (0, sI η 139 7 0) from th0, bd_s, l1_s, l1_s, i00, y2]
      rfl
  · refine Or.inr ⟨(k, k), m12 (by omega), ?_, ?_⟩
    · unfold fx_X7_reason
      rw [r_03 h.1, bd_s, e1]
      rfl
    · unfold f_X8_reason
      rw [e2, bd_s, thk (by omega), bd_s, l1_s, l1_s, i10]
theorem q_price {D L C : Nat} {μ η : Mm} (h : CR D L C μ η) (a b e : Int32) : QU μ η [(1, 1), (2, 2)] (f_X7_price KF μ 0 a b e) (fx_X7_price KF μ 0 a b e) (f_X8_price KF η 139 a b e) := by
  obtain ⟨k, hk, e1, e2, e3⟩ := b_ask h a b e
  by_cases k0 : k = 0
  · subst k0
    obtain ⟨c, l, o, ⟨rfl, hc⟩, ⟨rfl, hl⟩, rfl, ho⟩ := e3 rfl
    obtain ⟨v, y1, y2, y3, y4⟩ := b_why (h.s7 0) hc hl ho
    by_cases v0 : v = 0
    · obtain ⟨p, z1, z2⟩ := b_price (h.s7 0) hc hl (y4 v0)
      refine Or.inl ⟨p, ?_, ?_⟩
      · unfold f_X7_price
        rw [r_03 h.1, bd_s, e1, bd_s, show f_X7_refuse (nI 0) = some () from rfl, bd_s, bd_s, y1, bd_s, if_pos v0, bd_s, z1]
        rfl
      · unfold f_X8_price
        rw [e2, bd_s, show f_X8_throwsAt KF η 139 (nI 0) = some (0, sI η 139 7 0) from th0, bd_s, l1_s, l1_s, i00, y2, bd_s, if_pos ((vle y3).mpr v0), z2]
        rfl
    · refine Or.inl ⟨-1, ?_, ?_⟩
      · unfold f_X7_price
        rw [r_03 h.1, bd_s, e1, bd_s, show f_X7_refuse (nI 0) = some () from rfl, bd_s, bd_s, y1, bd_s, if_neg v0]
      · unfold f_X8_price
        rw [e2, bd_s, show f_X8_throwsAt KF η 139 (nI 0) = some (0, sI η 139 7 0) from th0, bd_s, l1_s, l1_s, i00, y2, bd_s, if_neg (fun q => v0 ((vle y3).mp q))]
  · refine Or.inr ⟨(k, k), m12 (by omega), ?_, ?_⟩
    · unfold fx_X7_price
      rw [r_03 h.1, bd_s, e1]
      rfl
    · unfold f_X8_price
      rw [e2, bd_s, thk (by omega), bd_s, l1_s, l1_s, i10]
theorem q_unreadable {D L C : Nat} {μ η : Mm} (h : CR D L C μ η) (a b e : Int32) : QT μ η [(1, 1), (2, 2)] (f_X7_unreadable KF μ 0 a b e) (fx_X7_unreadable KF μ 0 a b e) (f_X8_unreadable KF η 139 a b e) := by
  obtain ⟨k, hk, e1, e2, e3⟩ := b_ask h a b e
  by_cases k0 : k = 0
  · subst k0
    obtain ⟨c, l, o, ⟨rfl, hc⟩, ⟨rfl, hl⟩, rfl, ho⟩ := e3 rfl
    obtain ⟨v, y1, y2, y3, y4⟩ := b_why (h.s7 0) hc hl ho
    by_cases v0 : v = 0
    · obtain ⟨p, μ', η', z1, z2, z3, z4⟩ := b_unread (h.s7 0) hl (y4 v0)
      refine Or.inl ⟨p, μ', η', ?_, ?_, z3, z4⟩
      · unfold f_X7_unreadable
        rw [r_03 h.1, bd_s, e1, bd_s, show f_X7_refuse (nI 0) = some () from rfl, bd_s, bd_s, y1, bd_s, if_pos v0, bd_s, z1]
        rfl
      · unfold f_X8_unreadable
        rw [e2, bd_s, show f_X8_throwsAt KF η 139 (nI 0) = some (0, sI η 139 7 0) from th0, bd_s, l1_s, l1_s, i00, y2, bd_s, if_pos ((vle y3).mpr v0), z2]
        rfl
    · refine Or.inl ⟨-1, μ, sI η 139 7 0, ?_, ?_, FrI.rfl, FrI.rfl⟩
      · unfold f_X7_unreadable
        rw [r_03 h.1, bd_s, e1, bd_s, show f_X7_refuse (nI 0) = some () from rfl, bd_s, bd_s, y1, bd_s, if_neg v0]
      · unfold f_X8_unreadable
        rw [e2, bd_s, show f_X8_throwsAt KF η 139 (nI 0) = some (0, sI η 139 7 0) from th0, bd_s, l1_s, l1_s, i00, y2, bd_s, if_neg (fun q => v0 ((vle y3).mp q))]
  · refine Or.inr ⟨(k, k), m12 (by omega), ?_, ?_⟩
    · unfold fx_X7_unreadable
      rw [r_03 h.1, bd_s, e1]
      rfl
    · unfold f_X8_unreadable
      rw [e2, bd_s, thk (by omega), bd_s, l1_s, l1_s, i10]
theorem q_bestOffset {D L C : Nat} {μ η : Mm} (h : CR D L C μ η) (a b : Int32) : QT μ η [(1, 1)] (f_X7_bestOffset KF μ 0 a b) (fx_X7_bestOffset KF μ 0 a b) (f_X8_bestOffset KF η 139 a b) := by
  obtain ⟨k, hk, e1, e2, e3⟩ := b_pair h a b
  by_cases k0 : k = 0
  · subst k0
    obtain ⟨c, l, ⟨rfl, hc⟩, rfl, hl⟩ := e3 rfl
    obtain ⟨v, μ', η', y1, y2, y3, y4, -⟩ := b_best (h.s7 0) hc hl
    refine Or.inl ⟨v, μ', η', ?_, ?_, y3, y4⟩
    · unfold f_X7_bestOffset
      rw [r_03 h.1, bd_s, e1, bd_s, show f_X7_refuse (nI 0) = some () from rfl, bd_s, bd_s, y1]
      rfl
    · unfold f_X8_bestOffset
      rw [e2, bd_s, show f_X8_throwsAt KF η 139 (nI 0) = some (0, sI η 139 7 0) from th0, bd_s, l1_s, l1_s, i00, y2]
      rfl
  · have k1 : k = 1 := by omega
    subst k1
    refine Or.inr ⟨(1, 1), List.mem_singleton.mpr rfl, ?_, ?_⟩
    · unfold fx_X7_bestOffset
      rw [r_03 h.1, bd_s, e1]
      rfl
    · unfold f_X8_bestOffset
      rw [e2, bd_s, thk (k := 1) (Or.inl rfl), bd_s, l1_s, l1_s, i10]
theorem q_mostWorn {D L C : Nat} {μ η : Mm} (h : CR D L C μ η) : ∃ v, f_X7_mostWorn KF μ 0 = some v ∧ f_X8_mostWorn KF η 139 = some (v, sI η 139 7 0) := by
  obtain ⟨v, y1, y2⟩ := b_worn (h.s7 0)
  refine ⟨v, ?_, ?_⟩
  · unfold f_X7_mostWorn
    rw [r_03 h.1, bd_s, r_90 h.1, bd_s, y1]
    rfl
  · unfold f_X8_mostWorn
    rw [l1_s, y2]
    rfl
end PureY
