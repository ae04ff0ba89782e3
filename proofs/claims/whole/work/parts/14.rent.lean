/-! PURE: who rents a dot, which part is taken -/
section PureB
def over (f : Nat → Int32) (k : Nat) (a b : Int32) : Prop := f (146 + 6 * k) ≠ -1 ∧ f (146 + 6 * k) ≤ b ∧ a ≤ f (146 + 6 * k + 1)
theorem cpl_cus {μ : Mm} {f : Nat → Int32} {D L C k j : Nat} (h : Cpl μ 9 f D L C) (hk : k < C) (hj : j < 6) : μ.1 (29 + k) j = f (146 + 6 * k + j) := h.2.2.2.2.2.2.1 k hk j hj
theorem c_over {D L C : Nat} {μ η : Mm} (h : CR D L C μ η) {k : Nat} (hk : k < C) {a b : Int32} (o : over (η.1 140) k a b) : f_X2_rentsOneOf KF μ (29 + k) a b = some 1 := by
  obtain ⟨hR, -, hc, hw⟩ := h
  unfold f_X2_rentsOneOf
  have e0 : μ.1 (29 + k) 0 = η.1 140 (146 + 6 * k) := cpl_cus hc hk (by omega)
  have e1 : μ.1 (29 + k) 1 = η.1 140 (146 + 6 * k + 1) := cpl_cus hc hk (by omega)
  rw [e0, e1, if_neg o.1, if_neg (Int32.not_lt.mpr o.2.1), l1_s, if_neg (Int32.not_lt.mpr o.2.2)]
  exact gd_t (Or.inr (by first | trivial | rfl))
theorem c_nover {D L C : Nat} {μ η : Mm} (h : CR D L C μ η) {k : Nat} (hk : k < C) {a b : Int32} (o : ¬ over (η.1 140) k a b) : f_X2_rentsOneOf KF μ (29 + k) a b = some 0 := by
  obtain ⟨hR, -, hc, hw⟩ := h
  unfold f_X2_rentsOneOf
  have e0 : μ.1 (29 + k) 0 = η.1 140 (146 + 6 * k) := cpl_cus hc hk (by omega)
  have e1 : μ.1 (29 + k) 1 = η.1 140 (146 + 6 * k + 1) := cpl_cus hc hk (by omega)
  rw [e0, e1]
  by_cases q : η.1 140 (146 + 6 * k) = -1
  · rw [if_pos q]
  · rw [if_neg q]
    by_cases q' : b < η.1 140 (146 + 6 * k)
    · rw [if_pos q']
    · rw [if_neg q', l1_s, if_pos (Int32.not_le.mp (fun q'' => o ⟨q, Int32.not_lt.mp q', q''⟩))]
      exact gd_t (Or.inl (by first | trivial | rfl))
def RNT (f : Nat → Int32) (C d : Nat) (v : Int32) : Prop := (v = -1 ∧ ∀ k, k < C → ¬ rents f k d) ∨ ∃ k, k < C ∧ v = nI k ∧ rents f k d
theorem RNT.one {f : Nat → Int32} {D L C d : Nat} {v w : Int32} (hw : WF f D L C) (hd : d < D) (h : RNT f C d v) (h' : RNT f C d w) : v = w := by
  rcases h with ⟨e, n⟩ | ⟨k, hk, e, r⟩
  · rcases h' with ⟨e', n'⟩ | ⟨k', hk', e', r'⟩
    · rw [e, e']
    · exact absurd r' (n k' hk')
  · rcases h' with ⟨e', n'⟩ | ⟨k', hk', e', r'⟩
    · exact absurd r (n' k hk)
    · rw [e, e', hw.2.2.2.2.2.2.2.1 k k' d hk hk' hd r r']
theorem m_renter {D L C : Nat} {η : Mm} (hR : RF η) (hw : WF (η.1 140) D L C) {d : Nat} (hd : d < D) : ∃ v, f_X8_renter KF η 139 (nI d) = some v ∧ RNT (η.1 140) C d v := by
  have hC := hw.2.2.1
  have hD := hw.1
  obtain ⟨v, e, q⟩ := lp0 (fun n k v => f_X8_renter_l4 KF η 139 (nI d) n v (nI k)) C (by unfold FU; omega) (fun k v => RNT (η.1 140) k d v) (fun v => RNT (η.1 140) C d v)
    (by
      intro n k v hk hP
      refine Or.inr ?_
      simp (disch := omega) only [f_X8_renter_l4, r_m0 hR, bd_s, l1_s, L9, L0, K140, gd_n, ix_n, hC.1, leN, if_neg (Nat.not_le.mpr hk), m_customerOf hR (show k < 6 by omega) (show 0 < 6 by decide), Nat.add_zero]
      by_cases q : η.1 140 (146 + 6 * k) = -1
      · refine ⟨v, ?_, ?_⟩
        · rw [if_pos q, nI_succ]
        · rcases hP with ⟨e, n⟩ | ⟨j, hj, e, r⟩
          · refine Or.inl ⟨e, fun i hi => ?_⟩
            rcases Nat.lt_or_ge i k with h | h
            · exact n i h
            · have : i = k := by omega
              subst this
              exact fun r => r.1 q
          · exact Or.inr ⟨j, by omega, e, r⟩
      · rw [if_neg q]
        rw [show (1 : Int32) = nI 1 from rfl, m_customerOf hR (show k < 6 by omega) (show 1 < 6 by decide)]
        simp only [bd_s]
        by_cases o : rents (η.1 140) k d
        · refine ⟨nI k, ?_, Or.inr ⟨k, by omega, rfl, o⟩⟩
          rw [in_in (Int32.not_lt.mpr o.2.1) (Int32.not_lt.mpr o.2.2)]
          simp only [bd_s, l1_s, nI_add]
          rfl
        · refine ⟨v, ?_, ?_⟩
          · have : f_X8_in (nI d) (η.1 140 (146 + 6 * k)) (η.1 140 (146 + 6 * k + 1)) = some 0 := by
              by_cases q1 : nI d < η.1 140 (146 + 6 * k)
              · exact in_lo q1
              · exact in_hi (Int32.not_le.mp fun q2 => o ⟨q, Int32.not_lt.mp q1, q2⟩)
            rw [this]
            simp only [bd_s, l1_s, nI_add]
            rfl
          · rcases hP with ⟨e, n⟩ | ⟨j, hj, e, r⟩
            · refine Or.inl ⟨e, fun i hi => ?_⟩
              rcases Nat.lt_or_ge i k with h | h
              · exact n i h
              · have : i = k := by omega
                subst this
                exact o
            · exact Or.inr ⟨j, by omega, e, r⟩)
    (by
      intro n v hP
      refine ⟨v, ?_, hP⟩
      simp (disch := omega) only [f_X8_renter_l4, r_m0 hR, bd_s, l1_s, L9, K140, gd_n, ix_n, hC.1, leN, if_pos (Nat.le_refl C)]) (-1) (Or.inl ⟨rfl, fun k hk => absurd hk (by omega)⟩)
  refine ⟨v, ?_, q⟩
  unfold f_X8_renter
  rw [show f_X8_renter_l4 KF η 139 (nI d) FU (-1) 0 = some v from e]
  rfl
theorem c_renterOf {D L C : Nat} {μ η : Mm} (h : CR D L C μ η) {d : Nat} (hd : d < D) : ∃ v, f_X5_renterOf KF μ 9 (nI d) = some v ∧ RNT (η.1 140) C d v := by
  have h0 := h
  obtain ⟨hR, -, hc, hw⟩ := h
  have hC := hw.2.2.1
  have e6 : μ.1 9 6 = nI C := hc.2.2.2.1.2.1.trans hw.2.2.1.1
  obtain ⟨v, e, q⟩ := lp0 (fun n k (_ : Unit) => f_X5_renterOf_l2 KF μ 9 (nI d) n (nI k)) C (by unfold FU; omega) (fun k _ => ∀ j, j < k → ¬ rents (η.1 140) j d)
    (fun r => RNT (η.1 140) C d (match r with | .inl r => r | .inr _ => -1))
    (by
      intro n k v hk hP
      simp (disch := omega) only [f_X5_renterOf_l2, e6, r_95 hR, bd_s, l1_s, K16, gd_n, ix_n, leN, if_neg (Nat.not_le.mpr hk), r_cus hR (show k < 6 by omega)]
      by_cases o : rents (η.1 140) k d
      · refine Or.inl ⟨.inl (nI k), ?_, Or.inr ⟨k, hk, rfl, o⟩⟩
        rw [c_over h0 hk o]
        rfl
      · refine Or.inr ⟨(), ?_, fun j hj => ?_⟩
        · rw [c_nover h0 hk o, nI_succ]
          rfl
        · rcases Nat.lt_or_ge j k with h | h
          · exact hP j h
          · have : j = k := by omega
            subst this
            exact o)
    (by
      intro n v hP
      refine ⟨.inr (), ?_, Or.inl ⟨rfl, hP⟩⟩
      simp (disch := omega) only [f_X5_renterOf_l2, e6, leN, if_pos (Nat.le_refl C)]) () (fun j hj => absurd hj (by omega))
  refine ⟨_, ?_, q⟩
  unfold f_X5_renterOf
  rw [show f_X5_renterOf_l2 KF μ 9 (nI d) FU 0 = some v from e]
  cases v <;> rfl
/-- both answer the same renter -/
theorem b_renter {D L C : Nat} {μ η : Mm} (h : CR D L C μ η) {d : Nat} (hd : d < D) : ∃ v, f_X5_renterOf KF μ 9 (nI d) = some v ∧ f_X8_renter KF η 139 (nI d) = some v ∧ RNT (η.1 140) C d v := by
  obtain ⟨v, e, q⟩ := c_renterOf h hd
  obtain ⟨w, e', q'⟩ := m_renter h.2.1 h.2.2.2 hd
  rw [q'.one h.2.2.2 hd q] at e'
  exact ⟨v, e, e', q⟩
end PureB
