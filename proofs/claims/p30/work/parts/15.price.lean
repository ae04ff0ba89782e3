/-! PURE: parts taken, black cells, reasons, prices: the class -/
section PureC
theorem over_rents {f : Nat → Int32} {D L C k a b : Nat} (hw : WF f D L C) (hk : k < C) (hab : a ≤ b) (hb : b < D) : over f k (nI a) (nI b) ↔ ∃ d, a ≤ d ∧ d ≤ b ∧ rents f k d := by
  have hD := hw.1
  rcases hw.2.2.2.2.2.2.1 k hk with ⟨e, e'⟩ | ⟨x, y, hxy, hy, e, e'⟩
  · constructor
    · intro h
      exact absurd e h.1
    · rintro ⟨d, -, -, h⟩
      exact absurd e h.1
  · unfold over rents
    rw [e, e']
    constructor
    · rintro ⟨h1, h2, h3⟩
      rw [leN (by omega) (by omega)] at h2 h3
      refine ⟨if a ≤ x then x else a, ?_, ?_, h1, ?_, ?_⟩
      · split <;> omega
      · split <;> omega
      · rw [leN (by omega) (by split <;> omega)]
        split <;> omega
      · rw [leN (by split <;> omega) (by omega)]
        split <;> omega
    · rintro ⟨d, hd, hd', h1, h2, h3⟩
      rw [leN (by omega) (by omega)] at h2 h3
      refine ⟨h1, ?_, ?_⟩
      · rw [leN (by omega) (by omega)]
        omega
      · rw [leN (by omega) (by omega)]
        omega
theorem m1_ne {k : Nat} (hk : k < 1000) : nI k ≠ -1 := fun e => nI_pos (n := k) (by omega) (by rw [e]; decide)
theorem c_others {D L C : Nat} {μ : Mm} {f : Nat → Int32} (h : CR D L C μ f) {c a b : Nat} (hcc : c < C) : ∃ v, f_X5_othersRentOneOf KF μ 9 (nI c) (nI a) (nI b) = some v ∧
    ((v = 0 ∧ ∀ k, k < C → k ≠ c → ¬ over f k (nI a) (nI b)) ∨ (v = 1 ∧ ∃ k, k < C ∧ k ≠ c ∧ over f k (nI a) (nI b))) := by
  have h0 := h
  obtain ⟨hR, hc, hw⟩ := h
  have hC := hw.2.2.1
  have e6 : μ.1 9 6 = nI C := hc.2.2.2.1.2.1.trans hw.2.2.1.1
  obtain ⟨v, e, q⟩ := lp0 (fun n k (_ : Unit) => f_X5_othersRentOneOf_l3 KF μ 9 (nI c) (nI a) (nI b) n (nI k)) C (by unfold FU; omega) (fun m _ => ∀ k, k < m → k ≠ c → ¬ over f k (nI a) (nI b))
    (fun r => (r = .inr () ∧ ∀ k, k < C → k ≠ c → ¬ over f k (nI a) (nI b)) ∨ (r = .inl 1 ∧ ∃ k, k < C ∧ k ≠ c ∧ over f k (nI a) (nI b)))
    (by
      intro n k v hk hP
      simp (disch := omega) only [f_X5_othersRentOneOf_l3, e6, r_95 hR, bd_s, l1_s, K16, gd_n, ix_n, leN, eqN, if_neg (Nat.not_le.mpr hk), r_cus hR (show k < 6 by omega)]
      by_cases hkc : k = c
      · refine Or.inr ⟨(), ?_, fun j hj hjc => hP j (by omega) hjc⟩
        rw [if_pos hkc, nI_succ]
      · rw [if_neg hkc]
        by_cases o : over f k (nI a) (nI b)
        · refine Or.inl ⟨.inl 1, ?_, Or.inr ⟨rfl, k, hk, hkc, o⟩⟩
          rw [c_over h0 hk o]
          rfl
        · refine Or.inr ⟨(), ?_, fun j hj hjc => ?_⟩
          · rw [c_nover h0 hk o, nI_succ]
            rfl
          · rcases Nat.lt_or_ge j k with h | h
            · exact hP j h hjc
            · have : j = k := by omega
              subst this
              exact o)
    (by
      intro n v hP
      refine ⟨.inr (), ?_, Or.inl ⟨rfl, hP⟩⟩
      simp (disch := omega) only [f_X5_othersRentOneOf_l3, e6, leN, if_pos (Nat.le_refl C)]) () (fun j hj => absurd hj (by omega))
  unfold f_X5_othersRentOneOf
  rw [show f_X5_othersRentOneOf_l3 KF μ 9 (nI c) (nI a) (nI b) FU 0 = some v from e]
  rcases q with ⟨rfl, q⟩ | ⟨rfl, q⟩
  · exact ⟨0, rfl, Or.inl ⟨rfl, q⟩⟩
  · exact ⟨1, rfl, Or.inr ⟨rfl, q⟩⟩
def sumB (f : Nat → Int32) (l : Nat) : Nat → Int32 | 0 => 0 | r + 1 => sumB f l r + onesV (f (86 + 10 * l + (2 + r)))
theorem wf_row {f : Nat → Int32} {D L C l r : Nat} (hw : WF f D L C) (hl : l < L) (hr : r < 6) : ∃ n, n < 4096 ∧ f (86 + 10 * l + (2 + r)) = nI n := by
  obtain ⟨⟨w, h1, h2, -, h4⟩, -⟩ := hw.2.2.2.2.2.1 l hl
  obtain ⟨n, -, hn, e⟩ := h4 r hr
  have := pow12 w h2
  exact ⟨n, by omega, e⟩
theorem cpl_lab {μ : Mm} {f : Nat → Int32} {D L C l : Nat} (h : Cpl μ 9 f D L C) (hl : l < L) : μ.1 (17 + 2 * l) 0 = f (86 + 10 * l) ∧ μ.1 (17 + 2 * l) 1 = f (86 + 10 * l + 1) ∧ μ.1 (17 + 2 * l) 2 = f (86 + 10 * l + 8) ∧ μ.1 (17 + 2 * l) 3 = f (86 + 10 * l + 9) := (h.2.2.2.2.1 l hl).1
theorem cpl_row {μ : Mm} {f : Nat → Int32} {D L C l r : Nat} (h : Cpl μ 9 f D L C) (hl : l < L) (hr : r < 6) : μ.1 (18 + 2 * l) r = f (86 + 10 * l + (2 + r)) := (h.2.2.2.2.1 l hl).2 r hr
theorem cpl_set {μ : Mm} {f : Nat → Int32} {D L C j : Nat} (h : Cpl μ 9 f D L C) (hj : j < 7) : μ.1 14 j = f (1 + j) := h.2.2.1 j hj
theorem cpl_dot {μ : Mm} {f : Nat → Int32} {D L C d : Nat} (h : Cpl μ 9 f D L C) (hd : d < D) : μ.1 11 d = f (14 + 3 * d) ∧ μ.1 12 d = f (14 + 3 * d + 1) ∧ μ.1 13 d = f (14 + 3 * d + 2) := h.2.1 d hd
theorem c_blackCells {D L C : Nat} {μ : Mm} {f : Nat → Int32} (h : CR D L C μ f) {l : Nat} (hl : l < L) : f_X4_blackCells KF μ (17 + 2 * l) = some (sumB f l 6) := by
  obtain ⟨hR, hc, hw⟩ := h
  have hL := hw.2.1
  obtain ⟨v, e, q⟩ := lp0 (fun n r v => f_X4_blackCells_l4 KF μ (17 + 2 * l) n v (nI r)) 6 (by decide) (fun r v => v = sumB f l r) (fun v => v = sumB f l 6)
    (by
      intro n r v hr hP
      refine Or.inr ⟨sumB f l (r + 1), ?_, rfl⟩
      obtain ⟨x, hx, ex⟩ := wf_row hw hl hr
      simp (disch := omega) only [f_X4_blackCells_l4, L6, leN, if_neg (Nat.not_le.mpr hr), bd_s, l1_s, r_row hR (show l < 6 by omega), K_row l (by omega), gd_n, ix_n, cpl_row hc hl hr, ex, (ones_n hx).1]
      rw [hP, show sumB f l (r + 1) = sumB f l r + onesV (f (86 + 10 * l + (2 + r))) from rfl, ex, nI_succ])
    (by
      intro n v hP
      refine ⟨v, ?_, hP⟩
      simp (disch := omega) only [f_X4_blackCells_l4, L6, leN, if_pos (Nat.le_refl 6)]) 0 rfl
  unfold f_X4_blackCells
  rw [show f_X4_blackCells_l4 KF μ (17 + 2 * l) FU 0 0 = some v from e, q]
  rfl
theorem wf_lab {f : Nat → Int32} {D L C l : Nat} (hw : WF f D L C) (hl : l < L) : ∃ w, 1 ≤ w ∧ w ≤ 12 ∧ f (86 + 10 * l) = nI w := by
  obtain ⟨⟨w, h1, h2, h3, -⟩, -⟩ := hw.2.2.2.2.2.1 l hl
  exact ⟨w, h1, h2, h3⟩
noncomputable def itc {α : Type} (P : Prop) (a b : α) : α := @ite α P (Classical.propDecidable P) a b
theorem itc_t {α : Type} {P : Prop} {a b : α} (h : P) : itc P a b = a := @if_pos P (Classical.propDecidable P) h α a b
theorem itc_f {α : Type} {P : Prop} {a b : α} (h : ¬ P) : itc P a b = b := @if_neg P (Classical.propDecidable P) h α a b
/-- a part is taken by another one -/
def TK (f : Nat → Int32) (C c o w : Nat) : Prop := ∃ k, k < C ∧ k ≠ c ∧ over f k (nI o) (nI (o + w - 1))
noncomputable def whyV (f : Nat → Int32) (D C c l o w : Nat) : Int32 := itc (D < o + w) 1 (itc (TK f C c o w) 2 (itc (sumB f l 6 = 0) 3 0))
theorem whyV_0 {f : Nat → Int32} {D C c l o w : Nat} (h : whyV f D C c l o w = 0) : o + w ≤ D ∧ ¬ TK f C c o w ∧ ¬ sumB f l 6 = 0 := by
  unfold whyV at h
  by_cases h1 : D < o + w
  · rw [itc_t h1] at h
    exact absurd h (by decide)
  rw [itc_f h1] at h
  by_cases h2 : TK f C c o w
  · rw [itc_t h2] at h
    exact absurd h (by decide)
  rw [itc_f h2] at h
  by_cases h3 : sumB f l 6 = 0
  · rw [itc_t h3] at h
    exact absurd h (by decide)
  exact ⟨by omega, h2, h3⟩
theorem whyV_p {f : Nat → Int32} {D C c l o w : Nat} : whyV f D C c l o w = 0 ∨ 0 < whyV f D C c l o w := by
  unfold whyV
  by_cases h1 : D < o + w
  · rw [itc_t h1]; exact Or.inr (by decide)
  rw [itc_f h1]
  by_cases h2 : TK f C c o w
  · rw [itc_t h2]; exact Or.inr (by decide)
  rw [itc_f h2]
  by_cases h3 : sumB f l 6 = 0
  · rw [itc_t h3]; exact Or.inr (by decide)
  rw [itc_f h3]; exact Or.inl rfl
theorem c_why {D L C : Nat} {μ : Mm} {f : Nat → Int32} (h : CR D L C μ f) {c l o w : Nat} (hc : c < C) (hl : l < L) (ho : o < 24) (ew : f (86 + 10 * l) = nI w) (hw1 : 1 ≤ w) (hw2 : w ≤ 12) : f_X5_reasonAt KF μ 9 (nI c) (nI l) (nI o) = some (whyV f D C c l o w) := by
  have h0 := h
  obtain ⟨hR, hcp, hw⟩ := h
  have hD := hw.1
  have hL := hw.2.1
  have e10 : μ.1 10 0 = nI D := hcp.1.1.trans hD.1
  have ea := (cpl_lab hcp hl).1
  unfold f_X5_reasonAt whyV
  simp (disch := omega) only [r_93 hR, r_lab hR (show l < 6 by omega), bd_s, l1_s, K15, gd_n, ix_n, L0, L1, ea, ew, nI_add, pk_sub, r_90 hR, e10, ltN, c_blackCells h0 hl]
  by_cases q : o + w - 1 < D
  · rw [if_pos q, itc_f (by omega)]
    obtain ⟨v, e1, e2⟩ := c_others h0 (a := o) (b := o + w - 1) hc
    simp only [e1, bd_s]
    rcases e2 with ⟨rfl, e2⟩ | ⟨rfl, e2⟩
    · rw [itc_f (show ¬ TK f C c o w from fun ⟨k, k1, k2, k3⟩ => e2 k k1 k2 k3)]
      by_cases qb : sumB f l 6 = nI 0
      · rw [itc_t qb]
        simp only [L0, qb, if_true]
      · rw [itc_f qb]
        simp only [L0, if_neg qb, if_true]
    · rw [itc_t (show TK f C c o w from e2)]
      rfl
  · rw [if_neg q, itc_t (by omega)]
/-- what a part costs -/
def sumW (f : Nat → Int32) (a : Nat) : Nat → Int32 | 0 => 0 | n + 1 => sumW f a n + f (14 + 3 * (a + n) + 1)
theorem c_wearSum {D L C : Nat} {μ : Mm} {f : Nat → Int32} (h : CR D L C μ f) {a n : Nat} (hn : a + n ≤ D) (h1 : 1 ≤ a + n) : f_X3_wearSum KF μ 10 (nI a) (nI (a + n - 1)) = some (sumW f a n) := by
  obtain ⟨hR, hc, hw⟩ := h
  have hD := hw.1
  obtain ⟨v, e, q⟩ := lp (fun m d v => f_X3_wearSum_l5 KF μ 10 (nI (a + n - 1)) m v (nI d)) (a + n) (fun d v => a ≤ d ∧ v = sumW f a (d - a)) (fun v => v = sumW f a n)
    (by
      intro m d v hd ⟨hP, hP'⟩
      refine Or.inr ⟨sumW f a (d + 1 - a), ?_, by omega, rfl⟩
      obtain ⟨-, e2, -⟩ := cpl_dot hc (d := d) (by omega)
      simp (disch := omega) only [f_X3_wearSum_l5, ltN, if_neg (show ¬ a + n - 1 < d by omega), bd_s, l1_s, r_103 hR, K12, gd_n, ix_n, e2]
      rw [hP', show d + 1 - a = (d - a) + 1 by omega, nI_succ, show sumW f a (d - a + 1) = sumW f a (d - a) + f (14 + 3 * (a + (d - a)) + 1) from rfl, show a + (d - a) = d by omega])
    (by
      intro m v ⟨hP, hP'⟩
      refine ⟨v, ?_, by rw [hP', show a + n - a = n by omega]⟩
      simp (disch := omega) only [f_X3_wearSum_l5, ltN, if_pos (show a + n - 1 < a + n by omega)]) n a 0 FU (by omega) (by unfold FU; omega) ⟨Nat.le_refl a, by rw [show a - a = 0 by omega]; rfl⟩
  unfold f_X3_wearSum
  rw [show f_X3_wearSum_l5 KF μ 10 (nI (a + n - 1)) FU 0 (nI a) = some v from e, q]
  rfl
theorem m1_eq {v : Int32} {c : Nat} (hc : c < 1000) (h : v = -1) : ¬ v = nI c := fun e => m1_ne hc (e ▸ h)
/-- what a part costs -/
noncomputable def priV (f : Nat → Int32) (c l o w : Nat) : Int32 := itc (∀ i, o ≤ i → i < o + w → rents f c i) (sumB f l 6 * f (86 + 10 * l + 1) * f 7 * (1000 - (if sumW f o w / nI w < 900 then sumW f o w / nI w else 900)) / 1000) (sumB f l 6 * f (86 + 10 * l + 1) * f 7)
theorem all_rents {f : Nat → Int32} {D L C : Nat} (hw : WF f D L C) {c o w : Nat} (hc : c < C) (hw1 : 1 ≤ w) (how : o + w ≤ D) : (∀ i, o ≤ i → i < o + w → rents f c i) ↔ (f (146 + 6 * c) ≠ -1 ∧ f (146 + 6 * c) ≤ nI o ∧ nI (o + w - 1) ≤ f (146 + 6 * c + 1)) := by
  have hD := hw.1
  constructor
  · intro hal
    obtain ⟨t1, t2, -⟩ := hal o (Nat.le_refl o) (by omega)
    obtain ⟨-, -, t3⟩ := hal (o + w - 1) (by omega) (by omega)
    exact ⟨t1, t2, t3⟩
  · rintro ⟨t1, t2, t3⟩ i h1 h2
    exact ⟨t1, Int32.le_trans t2 (nI_le h1 (by omega)), Int32.le_trans (nI_le (show i ≤ o + w - 1 by omega) (by omega)) t3⟩
theorem c_price {D L C : Nat} {μ : Mm} {f : Nat → Int32} (h : CR D L C μ f) {c l o w : Nat} (hc : c < C) (hl : l < L) (ew : f (86 + 10 * l) = nI w) (hw1 : 1 ≤ w) (hw2 : w ≤ 12) (how : o + w ≤ D) : f_X5_priceAt KF μ 9 (nI c) (nI l) (nI o) = some (priV f c l o w) := by
  have h0 := h
  obtain ⟨hR, hcp, hw⟩ := h
  have hD := hw.1
  have hL := hw.2.1
  have hC := hw.2.2.1
  obtain ⟨ea, eb, -, -⟩ := cpl_lab hcp hl
  have es := cpl_set hcp (j := 6) (by omega)
  have hws := c_wearSum h0 (a := o) (n := w) how (by omega)
  have e0 : μ.1 (29 + c) 0 = f (146 + 6 * c) := cpl_cus hcp hc (by omega)
  have e1 : μ.1 (29 + c) 1 = f (146 + 6 * c + 1) := cpl_cus hcp hc (by omega)
  have hiff := all_rents hw hc hw1 how
  unfold f_X5_priceAt priV
  by_cases q : ∀ i, o ≤ i → i < o + w → rents f c i
  · obtain ⟨t1, t2, t3⟩ := hiff.mp q
    have hown : f_X2_rentsAllOf KF μ (29 + c) (nI o) (nI (o + w - 1)) = some 1 := by
      unfold f_X2_rentsAllOf
      rw [e0, e1, if_neg t1, if_neg (Int32.not_lt.mpr t2), l1_s, if_neg (Int32.not_lt.mpr t3)]
      exact gd_t (Or.inr rfl)
    rw [itc_t q]
    simp (disch := omega) only [r_93 hR, r_lab hR (show l < 6 by omega), bd_s, l1_s, K15, K14, K16, gd_n, ix_n, L0, L1, L6, L7, ea, eb, ew, es, nI_add, pk_sub, c_blackCells h0 hl, r_92 hR, r_95 hR, r_cus hR (show c < 6 by omega), Nat.reduceAdd, hown, r_90 hR, hws, leN, if_pos hw1, gd_t (show ¬ nI w = nI 0 from nI_ne0 (n := w) (by omega) (by omega)), if_neg (show ¬ nI 1 = nI 0 by decide)]
  · have hown : f_X2_rentsAllOf KF μ (29 + c) (nI o) (nI (o + w - 1)) = some 0 := by
      unfold f_X2_rentsAllOf
      rw [e0, e1]
      by_cases t1 : f (146 + 6 * c) = -1
      · rw [if_pos t1]
      · rw [if_neg t1]
        by_cases t2 : nI o < f (146 + 6 * c)
        · rw [if_pos t2]
        · rw [if_neg t2, l1_s, if_pos (Int32.not_le.mp fun t3 => q (hiff.mpr ⟨t1, Int32.not_lt.mp t2, t3⟩))]
          exact gd_t (Or.inl rfl)
    rw [itc_f q]
    simp (disch := omega) only [r_93 hR, r_lab hR (show l < 6 by omega), bd_s, l1_s, K15, K14, K16, gd_n, ix_n, L0, L1, L6, L7, ea, eb, ew, es, nI_add, pk_sub, c_blackCells h0 hl, r_92 hR, r_95 hR, r_cus hR (show c < 6 by omega), Nat.reduceAdd, hown, if_true]
end PureC
