/-! PURE: parts taken, black cells, reasons, prices -/
section PureC
theorem over_rents {f : Nat → Int32} {D L C k a b : Nat} (hw : WF f D L C) (hk : k < C) (hab : a ≤ b) (hb : b < D) : over f k (nI a) (nI b) ↔ ∃ d, a ≤ d ∧ d ≤ b ∧ rents f k d := by
  have hD := hw.1
  rcases hw.2.2.2.2.2.2.1 k hk with ⟨e, e'⟩ | ⟨x, y, hxy, hy, e, e'⟩
  · constructor
    · intro h
      exact absurd e h.1
    · rintro ⟨d, -, -, h⟩
      exact absurd e h.1
  · unfold over rents
    rw [e, e']
    constructor
    · rintro ⟨h1, h2, h3⟩
      rw [leN (by omega) (by omega)] at h2 h3
      refine ⟨if a ≤ x then x else a, ?_, ?_, h1, ?_, ?_⟩
      · split <;> omega
      · split <;> omega
      · rw [leN (by omega) (by split <;> omega)]
        split <;> omega
      · rw [leN (by split <;> omega) (by omega)]
        split <;> omega
    · rintro ⟨d, hd, hd', h1, h2, h3⟩
      rw [leN (by omega) (by omega)] at h2 h3
      refine ⟨h1, ?_, ?_⟩
      · rw [leN (by omega) (by omega)]
        omega
      · rw [leN (by omega) (by omega)]
        omega
theorem m1_ne {k : Nat} (hk : k < 1000) : nI k ≠ -1 := fun e => nI_pos (n := k) (by omega) (by rw [e]; decide)
theorem m_isTaken {D L C : Nat} {η : Mm} (hR : RF η) (hw : WF (η.1 140) D L C) {c a b : Nat} (hc : c < C) (hab : a ≤ b) (hb : b < D) : ∃ v, f_X8_isTaken KF η 139 (nI c) (nI a) (nI b) = some v ∧
    ((v = 0 ∧ ∀ k, k < C → k ≠ c → ¬ over (η.1 140) k (nI a) (nI b)) ∨ (v = 1 ∧ ∃ k, k < C ∧ k ≠ c ∧ over (η.1 140) k (nI a) (nI b))) := by
  have hD := hw.1
  have hC := hw.2.2.1
  obtain ⟨v, e, q⟩ := lp (fun n d v => f_X8_isTaken_l6 KF η 139 (nI c) (nI b) n v (nI d)) (b + 1)
    (fun m v => a ≤ m ∧ ((v = 0 ∧ ∀ d, a ≤ d → d < m → ∀ k, k < C → k ≠ c → ¬ rents (η.1 140) k d) ∨ (v = 1 ∧ ∃ d k, a ≤ d ∧ d < m ∧ k < C ∧ k ≠ c ∧ rents (η.1 140) k d)))
    (fun v => (v = 0 ∧ ∀ d, a ≤ d → d < b + 1 → ∀ k, k < C → k ≠ c → ¬ rents (η.1 140) k d) ∨ (v = 1 ∧ ∃ d k, a ≤ d ∧ d < b + 1 ∧ k < C ∧ k ≠ c ∧ rents (η.1 140) k d))
    (by
      intro n d v hd hP
      refine Or.inr ?_
      obtain ⟨w, hw1, hw2⟩ := m_renter hR hw (d := d) (by omega)
      simp (disch := omega) only [f_X8_isTaken_l6, ltN, if_neg (Nat.not_lt.mpr (Nat.le_of_lt_succ hd)), hw1, bd_s, l1_s]
      obtain ⟨had, hP⟩ := hP
      rcases hP with ⟨e, n0⟩ | ⟨e, d', k', q1, q2, q3, q4, q5⟩
      · rw [e, if_pos rfl]
        rcases hw2 with ⟨e1, n1⟩ | ⟨k, hk, e1, r⟩
        · rw [e1, if_pos rfl]
          refine ⟨0, by rw [nI_succ], by omega, Or.inl ⟨rfl, fun i hi hi' k hk hk' => ?_⟩⟩
          rcases Nat.lt_or_ge i d with h | h
          · exact n0 i hi h k hk hk'
          · have : i = d := by omega
            subst this
            exact n1 k hk
        · rw [e1, if_neg (m1_ne (by omega))]
          by_cases hkc : k = c
          · subst hkc
            rw [if_pos rfl]
            refine ⟨0, by rw [nI_succ], by omega, Or.inl ⟨rfl, fun i hi hi' j hj hj' => ?_⟩⟩
            rcases Nat.lt_or_ge i d with h | h
            · exact n0 i hi h j hj hj'
            · have : i = d := by omega
              subst this
              exact fun r' => hj' (hw.2.2.2.2.2.2.2.1 j k i hj hk (by omega) r' r)
          · rw [if_neg (by rw [eqN (by omega) (by omega)]; exact hkc)]
            exact ⟨1, by rw [nI_succ], by omega, Or.inr ⟨rfl, d, k, by omega, by omega, hk, hkc, r⟩⟩
      · rw [e, if_neg (by decide)]
        exact ⟨1, by rw [nI_succ], by omega, Or.inr ⟨rfl, d', k', q1, by omega, q3, q4, q5⟩⟩)
    (by
      intro n v hP
      refine ⟨v, ?_, hP.2⟩
      simp (disch := omega) only [f_X8_isTaken_l6, ltN, if_pos (Nat.lt_succ_self b)]) (b + 1 - a) a 0 FU (by omega) (by unfold FU; omega) ⟨Nat.le_refl a, Or.inl ⟨rfl, fun d h1 h2 => absurd h1 (by omega)⟩⟩
  refine ⟨v, ?_, ?_⟩
  · unfold f_X8_isTaken
    rw [show f_X8_isTaken_l6 KF η 139 (nI c) (nI b) FU 0 (nI a) = some v from e]
    rcases q with ⟨e, -⟩ | ⟨e, -⟩
    · rw [e]
      rfl
    · rw [e]
      rfl
  · rcases q with ⟨e, n0⟩ | ⟨e, d, k, q1, q2, q3, q4, q5⟩
    · refine Or.inl ⟨e, fun k hk hkc o => ?_⟩
      obtain ⟨d, h1, h2, h3⟩ := (over_rents hw hk hab hb).mp o
      exact n0 d h1 (by omega) k hk hkc h3
    · exact Or.inr ⟨e, k, q3, q4, (over_rents hw q3 hab hb).mpr ⟨d, q1, by omega, q5⟩⟩
theorem c_others {D L C : Nat} {μ η : Mm} (h : CR D L C μ η) {c a b : Nat} (hcc : c < C) : ∃ v, f_X5_othersRentOneOf KF μ 9 (nI c) (nI a) (nI b) = some v ∧
    ((v = 0 ∧ ∀ k, k < C → k ≠ c → ¬ over (η.1 140) k (nI a) (nI b)) ∨ (v = 1 ∧ ∃ k, k < C ∧ k ≠ c ∧ over (η.1 140) k (nI a) (nI b))) := by
  have h0 := h
  obtain ⟨hR, -, hc, hw⟩ := h
  have hC := hw.2.2.1
  have e6 : μ.1 9 6 = nI C := hc.2.2.2.1.2.1.trans hw.2.2.1.1
  obtain ⟨v, e, q⟩ := lp0 (fun n k (_ : Unit) => f_X5_othersRentOneOf_l3 KF μ 9 (nI c) (nI a) (nI b) n (nI k)) C (by unfold FU; omega) (fun m _ => ∀ k, k < m → k ≠ c → ¬ over (η.1 140) k (nI a) (nI b))
    (fun r => (r = .inr () ∧ ∀ k, k < C → k ≠ c → ¬ over (η.1 140) k (nI a) (nI b)) ∨ (r = .inl 1 ∧ ∃ k, k < C ∧ k ≠ c ∧ over (η.1 140) k (nI a) (nI b)))
    (by
      intro n k v hk hP
      simp (disch := omega) only [f_X5_othersRentOneOf_l3, e6, r_95 hR, bd_s, l1_s, K16, gd_n, ix_n, leN, eqN, if_neg (Nat.not_le.mpr hk), r_cus hR (show k < 6 by omega)]
      by_cases hkc : k = c
      · refine Or.inr ⟨(), ?_, fun j hj hjc => hP j (by omega) hjc⟩
        rw [if_pos hkc, nI_succ]
      · rw [if_neg hkc]
        by_cases o : over (η.1 140) k (nI a) (nI b)
        · refine Or.inl ⟨.inl 1, ?_, Or.inr ⟨rfl, k, hk, hkc, o⟩⟩
          rw [c_over h0 hk o]
          rfl
        · refine Or.inr ⟨(), ?_, fun j hj hjc => ?_⟩
          · rw [c_nover h0 hk o, nI_succ]
            rfl
          · rcases Nat.lt_or_ge j k with h | h
            · exact hP j h hjc
            · have : j = k := by omega
              subst this
              exact o)
    (by
      intro n v hP
      refine ⟨.inr (), ?_, Or.inl ⟨rfl, hP⟩⟩
      simp (disch := omega) only [f_X5_othersRentOneOf_l3, e6, leN, if_pos (Nat.le_refl C)]) () (fun j hj => absurd hj (by omega))
  unfold f_X5_othersRentOneOf
  rw [show f_X5_othersRentOneOf_l3 KF μ 9 (nI c) (nI a) (nI b) FU 0 = some v from e]
  rcases q with ⟨rfl, q⟩ | ⟨rfl, q⟩
  · exact ⟨0, rfl, Or.inl ⟨rfl, q⟩⟩
  · exact ⟨1, rfl, Or.inr ⟨rfl, q⟩⟩
theorem b_taken {D L C : Nat} {μ η : Mm} (h : CR D L C μ η) {c a b : Nat} (hc : c < C) (hab : a ≤ b) (hb : b < D) : ∃ v, f_X5_othersRentOneOf KF μ 9 (nI c) (nI a) (nI b) = some v ∧ f_X8_isTaken KF η 139 (nI c) (nI a) (nI b) = some v ∧
    (v = 0 ∨ v = 1) ∧ (v = 0 → ∀ k, k < C → k ≠ c → ¬ over (η.1 140) k (nI a) (nI b)) := by
  obtain ⟨v, e, q⟩ := c_others h (a := a) (b := b) hc
  obtain ⟨w, e', q'⟩ := m_isTaken h.2.1 h.2.2.2 hc hab hb
  have : w = v := by
    rcases q with ⟨e1, q⟩ | ⟨e1, k, h1, h2, h3⟩
    · rcases q' with ⟨e2, q'⟩ | ⟨e2, k', h1', h2', h3'⟩
      · rw [e1, e2]
      · exact absurd h3' (q k' h1' h2')
    · rcases q' with ⟨e2, q'⟩ | ⟨e2, k', h1', h2', h3'⟩
      · exact absurd h3 (q' k h1 h2)
      · rw [e1, e2]
  rw [this] at e'
  refine ⟨v, e, e', ?_, ?_⟩
  · rcases q with ⟨e1, -⟩ | ⟨e1, -⟩
    · exact Or.inl e1
    · exact Or.inr e1
  · intro h0
    rcases q with ⟨e1, q⟩ | ⟨e1, -⟩
    · exact q
    · rw [e1] at h0
      exact absurd h0 (by decide)
def sumB (f : Nat → Int32) (l : Nat) : Nat → Int32 | 0 => 0 | r + 1 => sumB f l r + onesV (f (86 + 10 * l + (2 + r)))
theorem wf_row {f : Nat → Int32} {D L C l r : Nat} (hw : WF f D L C) (hl : l < L) (hr : r < 6) : ∃ n, n < 4096 ∧ f (86 + 10 * l + (2 + r)) = nI n := by
  obtain ⟨⟨w, h1, h2, -, h4⟩, -⟩ := hw.2.2.2.2.2.1 l hl
  obtain ⟨n, -, hn, e⟩ := h4 r hr
  have := pow12 w h2
  exact ⟨n, by omega, e⟩
theorem m_blacks {D L C : Nat} {η : Mm} (hR : RF η) (hw : WF (η.1 140) D L C) {l : Nat} (hl : l < L) : f_X8_blacks KF η 139 (nI l) = some (sumB (η.1 140) l 6) := by
  have hL := hw.2.1
  obtain ⟨v, e, q⟩ := lp0 (fun n r v => f_X8_blacks_l4 KF η 139 (nI l) n v (nI r)) 6 (by decide) (fun r v => v = sumB (η.1 140) l r) (fun v => v = sumB (η.1 140) l 6)
    (by
      intro n r v hr hP
      refine Or.inr ⟨sumB (η.1 140) l (r + 1), ?_, rfl⟩
      obtain ⟨x, hx, ex⟩ := wf_row hw hl hr
      have hm := m_labelOf hR (l := l) (j := 2 + r) (by omega) (by omega)
      simp (disch := omega) only [f_X8_blacks_l4, L6, L2, leN, if_neg (Nat.not_le.mpr hr), nI_add, hm, bd_s, l1_s, ex, (ones_n hx).2]
      rw [hP, show sumB (η.1 140) l (r + 1) = sumB (η.1 140) l r + onesV (η.1 140 (86 + 10 * l + (2 + r))) from rfl, ex, nI_succ])
    (by
      intro n v hP
      refine ⟨v, ?_, hP⟩
      simp (disch := omega) only [f_X8_blacks_l4, L6, leN, if_pos (Nat.le_refl 6)]) 0 rfl
  unfold f_X8_blacks
  rw [show f_X8_blacks_l4 KF η 139 (nI l) FU 0 0 = some v from e, q]
  rfl
theorem cpl_lab {μ : Mm} {f : Nat → Int32} {D L C l : Nat} (h : Cpl μ 9 f D L C) (hl : l < L) : μ.1 (17 + 2 * l) 0 = f (86 + 10 * l) ∧ μ.1 (17 + 2 * l) 1 = f (86 + 10 * l + 1) ∧ μ.1 (17 + 2 * l) 2 = f (86 + 10 * l + 8) ∧ μ.1 (17 + 2 * l) 3 = f (86 + 10 * l + 9) := (h.2.2.2.2.1 l hl).1
theorem cpl_row {μ : Mm} {f : Nat → Int32} {D L C l r : Nat} (h : Cpl μ 9 f D L C) (hl : l < L) (hr : r < 6) : μ.1 (18 + 2 * l) r = f (86 + 10 * l + (2 + r)) := (h.2.2.2.2.1 l hl).2 r hr
theorem cpl_set {μ : Mm} {f : Nat → Int32} {D L C j : Nat} (h : Cpl μ 9 f D L C) (hj : j < 7) : μ.1 14 j = f (1 + j) := h.2.2.1 j hj
theorem cpl_dot {μ : Mm} {f : Nat → Int32} {D L C d : Nat} (h : Cpl μ 9 f D L C) (hd : d < D) : μ.1 11 d = f (14 + 3 * d) ∧ μ.1 12 d = f (14 + 3 * d + 1) ∧ μ.1 13 d = f (14 + 3 * d + 2) := h.2.1 d hd
theorem c_blackCells {D L C : Nat} {μ η : Mm} (h : CR D L C μ η) {l : Nat} (hl : l < L) : f_X4_blackCells KF μ (17 + 2 * l) = some (sumB (η.1 140) l 6) := by
  obtain ⟨hR, -, hc, hw⟩ := h
  have hL := hw.2.1
  obtain ⟨v, e, q⟩ := lp0 (fun n r v => f_X4_blackCells_l4 KF μ (17 + 2 * l) n v (nI r)) 6 (by decide) (fun r v => v = sumB (η.1 140) l r) (fun v => v = sumB (η.1 140) l 6)
    (by
      intro n r v hr hP
      refine Or.inr ⟨sumB (η.1 140) l (r + 1), ?_, rfl⟩
      obtain ⟨x, hx, ex⟩ := wf_row hw hl hr
      simp (disch := omega) only [f_X4_blackCells_l4, L6, leN, if_neg (Nat.not_le.mpr hr), bd_s, l1_s, r_row hR (show l < 6 by omega), K_row l (by omega), gd_n, ix_n, cpl_row hc hl hr, ex, (ones_n hx).1]
      rw [hP, show sumB (η.1 140) l (r + 1) = sumB (η.1 140) l r + onesV (η.1 140 (86 + 10 * l + (2 + r))) from rfl, ex, nI_succ])
    (by
      intro n v hP
      refine ⟨v, ?_, hP⟩
      simp (disch := omega) only [f_X4_blackCells_l4, L6, leN, if_pos (Nat.le_refl 6)]) 0 rfl
  unfold f_X4_blackCells
  rw [show f_X4_blackCells_l4 KF μ (17 + 2 * l) FU 0 0 = some v from e, q]
  rfl
theorem wf_lab {f : Nat → Int32} {D L C l : Nat} (hw : WF f D L C) (hl : l < L) : ∃ w, 1 ≤ w ∧ w ≤ 12 ∧ f (86 + 10 * l) = nI w := by
  obtain ⟨⟨w, h1, h2, h3, -⟩, -⟩ := hw.2.2.2.2.2.1 l hl
  exact ⟨w, h1, h2, h3⟩
/-- why a label can't be printed: 0, or 1, 2, 3; a 0 says that the part lies on the head, and is nobody else's -/
theorem b_why {D L C : Nat} {μ η : Mm} (h : CR D L C μ η) {c l o : Nat} (hc : c < C) (hl : l < L) (ho : o < 24) : ∃ v, f_X5_reasonAt KF μ 9 (nI c) (nI l) (nI o) = some v ∧ f_X8_whyNot KF η 139 (nI c) (nI l) (nI o) = some v ∧
    (v = 0 ∨ 0 < v) ∧ (v = 0 → ∀ w, η.1 140 (86 + 10 * l) = nI w → w ≤ 12 → o + w ≤ D) := by
  have h0 := h
  obtain ⟨hR, hR2, hcp, hw⟩ := h
  have hD := hw.1
  have hL := hw.2.1
  obtain ⟨w, hw1, hw2, ew⟩ := wf_lab hw hl
  have e10 : μ.1 10 0 = nI D := hcp.1.1.trans hD.1
  have ea := (cpl_lab hcp hl).1
  unfold f_X5_reasonAt f_X8_whyNot
  have hm := m_labelOf hR2 (l := l) (j := 0) (by omega) (by omega)
  simp (disch := omega) only [r_93 hR, r_lab hR (show l < 6 by omega), bd_s, l1_s, K15, gd_n, ix_n, L0, L1, ea, ew, nI_add, pk_sub, r_90 hR, e10, ltN, hm, Nat.add_zero, r_m0 hR2, K140, hD.1, c_blackCells h0 hl, m_blacks hR2 hw hl]
  by_cases q : o + w - 1 < D
  · rw [if_pos q, if_pos q]
    obtain ⟨v, e1, e2, e3, -⟩ := b_taken h0 hc (a := o) (b := o + w - 1) (by omega) q
    simp only [e1, e2, bd_s]
    rcases e3 with rfl | rfl
    · have hT : ∀ w', nI w = nI w' → w' ≤ 12 → o + w' ≤ D := by
        intro w' ew' hw'
        rw [eqN (by omega) (by omega)] at ew'
        omega
      by_cases qb : sumB (η.1 140) l 6 = nI 0
      · exact ⟨3, by simp only [L0, qb, if_true], by simp only [L0, qb, if_true], Or.inr (by decide), fun _ => hT⟩
      · exact ⟨0, by simp only [L0, if_neg qb, if_true], by simp only [L0, if_neg qb, if_true], Or.inl rfl, fun _ => hT⟩
    · refine ⟨2, rfl, rfl, Or.inr (by decide), fun h => absurd h (by decide)⟩
  · rw [if_neg q, if_neg q]
    exact ⟨1, rfl, rfl, Or.inr (by decide), fun h => absurd h (by decide)⟩
/-- what a part costs -/
def sumW (f : Nat → Int32) (a : Nat) : Nat → Int32 | 0 => 0 | n + 1 => sumW f a n + f (14 + 3 * (a + n) + 1)
theorem c_wearSum {D L C : Nat} {μ η : Mm} (h : CR D L C μ η) {a n : Nat} (hn : a + n ≤ D) (h1 : 1 ≤ a + n) : f_X3_wearSum KF μ 10 (nI a) (nI (a + n - 1)) = some (sumW (η.1 140) a n) := by
  obtain ⟨hR, -, hc, hw⟩ := h
  have hD := hw.1
  obtain ⟨v, e, q⟩ := lp (fun m d v => f_X3_wearSum_l5 KF μ 10 (nI (a + n - 1)) m v (nI d)) (a + n) (fun d v => a ≤ d ∧ v = sumW (η.1 140) a (d - a)) (fun v => v = sumW (η.1 140) a n)
    (by
      intro m d v hd ⟨hP, hP'⟩
      refine Or.inr ⟨sumW (η.1 140) a (d + 1 - a), ?_, by omega, rfl⟩
      obtain ⟨-, e2, -⟩ := cpl_dot hc (d := d) (by omega)
      simp (disch := omega) only [f_X3_wearSum_l5, ltN, if_neg (show ¬ a + n - 1 < d by omega), bd_s, l1_s, r_103 hR, K12, gd_n, ix_n, e2]
      rw [hP', show d + 1 - a = (d - a) + 1 by omega, nI_succ, show sumW (η.1 140) a (d - a + 1) = sumW (η.1 140) a (d - a) + η.1 140 (14 + 3 * (a + (d - a)) + 1) from rfl, show a + (d - a) = d by omega])
    (by
      intro m v ⟨hP, hP'⟩
      refine ⟨v, ?_, by rw [hP', show a + n - a = n by omega]⟩
      simp (disch := omega) only [f_X3_wearSum_l5, ltN, if_pos (show a + n - 1 < a + n by omega)]) n a 0 FU (by omega) (by unfold FU; omega) ⟨Nat.le_refl a, by rw [show a - a = 0 by omega]; rfl⟩
  unfold f_X3_wearSum
  rw [show f_X3_wearSum_l5 KF μ 10 (nI (a + n - 1)) FU 0 (nI a) = some v from e, q]
  rfl
theorem m1_eq {v : Int32} {c : Nat} (hc : c < 1000) (h : v = -1) : ¬ v = nI c := fun e => m1_ne hc (e ▸ h)
theorem b_price {D L C : Nat} {μ η : Mm} (h : CR D L C μ η) {c l o : Nat} (hc : c < C) (hl : l < L) (ho : ∀ w, η.1 140 (86 + 10 * l) = nI w → w ≤ 12 → o + w ≤ D) : ∃ v, f_X5_priceAt KF μ 9 (nI c) (nI l) (nI o) = some v ∧ f_X8_priceOf KF η 139 (nI c) (nI l) (nI o) = some v := by
  have h0 := h
  obtain ⟨hR, hR2, hcp, hw⟩ := h
  have hD := hw.1
  have hL := hw.2.1
  have hC := hw.2.2.1
  obtain ⟨w, hw1, hw2, ew⟩ := wf_lab hw hl
  have how := ho w ew hw2
  obtain ⟨ea, eb, -, -⟩ := cpl_lab hcp hl
  have es := cpl_set hcp (j := 6) (by omega)
  have hm0 := m_labelOf hR2 (l := l) (j := 0) (by omega) (by omega)
  have hm1 := m_labelOf hR2 (l := l) (j := 1) (by omega) (by omega)
  simp only [Nat.add_zero] at hm0
  obtain ⟨v, e, q1, q2⟩ := lp (fun m d (s : Int32 × Int32) => f_X8_priceOf_l31 KF η 139 (nI c) (nI l) (nI o) ((sumB (η.1 140) l 6 * η.1 140 (86 + 10 * l + 1)) * η.1 140 7) m s.1 s.2 (nI d)) (o + w)
    (fun d s => o ≤ d ∧ s.1 = sumW (η.1 140) o (d - o) ∧ ((s.2 = 0 ∧ ∃ i, o ≤ i ∧ i < d ∧ ¬ rents (η.1 140) c i) ∨ (s.2 = 1 ∧ ∀ i, o ≤ i → i < d → rents (η.1 140) c i)))
    (fun s => s.1 = sumW (η.1 140) o w ∧ ((s.2 = 0 ∧ ∃ i, o ≤ i ∧ i < o + w ∧ ¬ rents (η.1 140) c i) ∨ (s.2 = 1 ∧ ∀ i, o ≤ i → i < o + w → rents (η.1 140) c i)))
    (by
      rintro m d ⟨s1, s2⟩ hd ⟨hod, hs, hP⟩
      refine Or.inr ?_
      have hdo := m_dotOf (μ := η) (k := 140) (d := d) (j := 1) rfl (by omega) (by omega)
      have hsum : sumW (η.1 140) o (d - o) + η.1 140 (14 + 3 * d + 1) = sumW (η.1 140) o (d + 1 - o) := by
        rw [show d + 1 - o = (d - o) + 1 by omega, show sumW (η.1 140) o (d - o + 1) = sumW (η.1 140) o (d - o) + η.1 140 (14 + 3 * (o + (d - o)) + 1) from rfl, show o + (d - o) = d by omega]
      have hs : s1 = sumW (η.1 140) o (d - o) := hs
      obtain ⟨r, hr1, hr2⟩ := m_renter hR2 hw (d := d) (by omega)
      simp (disch := omega) only [f_X8_priceOf_l31, L0, L1, hm0, bd_s, l1_s, ew, nI_add, leN, if_neg (show ¬ o + w ≤ d by omega), r_m0 hR2, hdo, hr1, hs, hsum]
      rcases hP with ⟨e0, i, h1, h2, h3⟩ | ⟨e1, hal⟩
      · have e0 : s2 = nI 0 := e0
        rw [e0, if_pos rfl]
        exact ⟨(_, nI 0), rfl, by omega, rfl, Or.inl ⟨rfl, i, h1, by omega, h3⟩⟩
      · have e1 : s2 = nI 1 := e1
        rw [e1, if_neg (by decide)]
        by_cases rr : rents (η.1 140) c d
        · have : r = nI c := RNT.one hw (by omega) hr2 (Or.inr ⟨c, hc, rfl, rr⟩)
          rw [if_pos this]
          refine ⟨(_, nI 1), rfl, by omega, rfl, Or.inr ⟨rfl, fun i h1 h2 => ?_⟩⟩
          rcases Nat.lt_or_ge i d with h | h
          · exact hal i h1 h
          · have : i = d := by omega
            subst this
            exact rr
        · have : ¬ r = nI c := by
            intro e
            rcases hr2 with ⟨e1, -⟩ | ⟨k, hk, e1, r1⟩
            · exact m1_eq (by omega) e1 e
            · rw [e, eqN (by omega) (by omega)] at e1
              subst e1
              exact rr r1
          rw [if_neg this]
          exact ⟨(_, nI 0), rfl, by omega, rfl, Or.inl ⟨rfl, d, hod, by omega, rr⟩⟩)
    (by
      rintro m ⟨s1, s2⟩ ⟨hod, hs, hP⟩
      refine ⟨(s1, s2), ?_, ?_, hP⟩
      · simp (disch := omega) only [f_X8_priceOf_l31, hm0, L0, bd_s, l1_s, ew, nI_add, leN, if_pos (Nat.le_refl (o + w))]
      · rw [show o + w - o = w by omega] at hs
        exact hs) w o (0, 1) FU (by omega) (by unfold FU; omega) ⟨Nat.le_refl o, by rw [show o - o = 0 by omega]; rfl, Or.inr ⟨rfl, fun i h1 h2 => absurd h1 (by omega)⟩⟩
  obtain ⟨v1, v2⟩ := v
  have q1 : v1 = sumW (η.1 140) o w := q1
  have e : f_X8_priceOf_l31 KF η 139 (nI c) (nI l) (nI o) ((sumB (η.1 140) l 6 * η.1 140 (86 + 10 * l + 1)) * η.1 140 7) FU (nI 0) (nI 1) (nI o) = some (v1, v2) := e
  have hws := c_wearSum h0 (a := o) (n := w) how (by omega)
  have e0 : μ.1 (29 + c) 0 = η.1 140 (146 + 6 * c) := cpl_cus hcp hc (by omega)
  have e1 : μ.1 (29 + c) 1 = η.1 140 (146 + 6 * c + 1) := cpl_cus hcp hc (by omega)
  have hown : f_X2_rentsAllOf KF μ (29 + c) (nI o) (nI (o + w - 1)) = some v2 := by
    unfold f_X2_rentsAllOf
    rw [e0, e1]
    rcases q2 with ⟨z, i, i1, i2, i3⟩ | ⟨z, hal⟩
    · have z : v2 = 0 := z
      by_cases t1 : η.1 140 (146 + 6 * c) = -1
      · rw [if_pos t1, z]
      · rw [if_neg t1]
        by_cases t2 : nI o < η.1 140 (146 + 6 * c)
        · rw [if_pos t2, z]
        · rw [if_neg t2, l1_s]
          have t3 : η.1 140 (146 + 6 * c + 1) < nI (o + w - 1) := by
            refine Int32.not_le.mp fun t3 => i3 ⟨t1, ?_, ?_⟩
            · exact Int32.le_trans (Int32.not_lt.mp t2) (nI_le i1 (by omega))
            · exact Int32.le_trans (nI_le (show i ≤ o + w - 1 by omega) (by omega)) t3
          rw [if_pos t3, z]
          exact gd_t (Or.inl rfl)
    · have z : v2 = 1 := z
      obtain ⟨t1, t2, -⟩ := hal o (Nat.le_refl o) (by omega)
      obtain ⟨-, -, t3⟩ := hal (o + w - 1) (by omega) (by omega)
      rw [if_neg t1, if_neg (Int32.not_lt.mpr t2), l1_s, if_neg (Int32.not_lt.mpr t3), z]
      exact gd_t (Or.inr rfl)
  unfold f_X5_priceAt f_X8_priceOf
  simp (disch := omega) only [r_93 hR, r_lab hR (show l < 6 by omega), bd_s, l1_s, K15, K14, K16, gd_n, ix_n, L0, L1, L6, L7, ea, eb, ew, es, nI_add, pk_sub, c_blackCells h0 hl, m_blacks hR2 hw hl, r_92 hR, r_95 hR, r_cus hR (show c < 6 by omega), hm0, hm1, r_m0 hR2, K140, Nat.reduceAdd, hown, e, r_90 hR, hws, leN, if_pos hw1, gd_t (show ¬ nI w = nI 0 from nI_ne0 (n := w) (by omega) (by omega))]
  rcases q2 with ⟨z, -⟩ | ⟨z, -⟩
  · have z : v2 = nI 0 := z
    rw [z, if_pos rfl, if_pos rfl]
    exact ⟨_, rfl, rfl⟩
  · have z : v2 = nI 1 := z
    rw [z, if_neg (show ¬ nI 1 = nI 0 by decide), if_neg (show ¬ nI 1 = nI 0 by decide), q1]
    by_cases t : sumW (η.1 140) o w / nI w < 900
    · rw [if_pos t, if_neg (Int32.not_le.mpr t)]
      exact ⟨_, rfl, rfl⟩
    · rw [if_neg t, if_pos (Int32.not_lt.mp t)]
      exact ⟨_, rfl, rfl⟩
end PureC
