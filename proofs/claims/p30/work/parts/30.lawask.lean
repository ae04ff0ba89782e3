/-! PURE: the law's rows, and what it asks of them -/
section PureL0
/-- the law's rows are the row f -/
def LR (ν : Mm) (f : Nat → Int32) : Prop := (∀ j, j < 14 → ν.1 139 j = f j) ∧ (∀ d, d < 24 → ν.1 140 d = f (14 + 3 * d) ∧ ν.1 141 d = f (14 + 3 * d + 1) ∧ ν.1 142 d = f (14 + 3 * d + 2)) ∧ (∀ j, j < 60 → ν.1 143 j = f (86 + j)) ∧ ∀ j, j < 36 → ν.1 144 j = f (146 + j)
theorem LR.l {ν : Mm} {f : Nat → Int32} (h : LR ν f) {l j : Nat} (hl : l < 6) (hj : j < 10) : ν.1 143 (10 * l + j) = f (86 + 10 * l + j) := by
  rw [h.2.2.1 _ (by omega), Nat.add_assoc]
theorem LR.l0 {ν : Mm} {f : Nat → Int32} (h : LR ν f) {l : Nat} (hl : l < 6) : ν.1 143 (10 * l) = f (86 + 10 * l) := h.2.2.1 _ (by omega)
theorem LR.c {ν : Mm} {f : Nat → Int32} (h : LR ν f) {k j : Nat} (hk : k < 6) (hj : j < 6) : ν.1 144 (6 * k + j) = f (146 + 6 * k + j) := by
  rw [h.2.2.2 _ (by omega), Nat.add_assoc]
theorem LR.c0 {ν : Mm} {f : Nat → Int32} (h : LR ν f) {k : Nat} (hk : k < 6) : ν.1 144 (6 * k) = f (146 + 6 * k) := h.2.2.2 _ (by omega)
theorem LR.cong {ν ν' : Mm} {f : Nat → Int32} (h : LR ν f) (e : ∀ a, 139 ≤ a → a ≤ 144 → ν'.1 a = ν.1 a) : LR ν' f := by
  unfold LR
  rw [e 139 (by omega) (by omega), e 140 (by omega) (by omega), e 141 (by omega) (by omega), e 142 (by omega) (by omega), e 143 (by omega) (by omega), e 144 (by omega) (by omega)]
  exact h
theorem l_renter {D L C : Nat} {ν : Mm} {f : Nat → Int32} (hl : LR ν f) (hw : WF f D L C) {d : Nat} (hd : d < D) : ∃ v, f_L_renter KF ν 139 144 (nI d) = some v ∧ RNT f C d v := by
  have hC := hw.2.2.1
  have hD := hw.1
  have g9 : ν.1 139 9 = nI C := (hl.1 9 (by omega)).trans hC.1
  obtain ⟨v, e, q⟩ := lp0 (fun n k v => f_L_renter_l5 KF ν 139 144 (nI d) n v (nI k)) C (by unfold FU; omega) (fun k v => RNT f k d v) (fun v => RNT f C d v)
    (by
      intro n k v hk hP
      refine Or.inr ?_
      have c0 := hl.c0 (show k < 6 by omega)
      have c1 := hl.c (show k < 6 by omega) (show 1 < 6 by decide)
      have no : ¬ rents f k d → RNT f (k + 1) d v := by
        intro hn
        rcases hP with ⟨e, n⟩ | ⟨j, hj, e, r⟩
        · refine Or.inl ⟨e, fun i hi => ?_⟩
          rcases Nat.lt_or_ge i k with h | h
          · exact n i h
          · rwa [show i = k by omega]
        · exact Or.inr ⟨j, by omega, e, r⟩
      rcases hw.2.2.2.2.2.2.1 k hk with ⟨e, e'⟩ | ⟨a, b, hab, hb, e, e'⟩
      · refine ⟨v, ?_, no (fun r => r.1 e)⟩
        simp (disch := omega) only [f_L_renter_l5, K139, K144, L9, L6, gd_n, ix_n, g9, leN, if_neg (Nat.not_le.mpr hk), pk_mul, c0, e, if_pos (show (-1 : Int32) < 0 by decide), bd_s, l1_s, nI_succ k]
      · have n0 : ¬ nI a < 0 := nI_pos (by omega)
        by_cases t1 : d < a
        · refine ⟨v, ?_, no (fun r => ?_)⟩
          · simp (disch := omega) only [f_L_renter_l5, K139, K144, L9, L6, gd_n, ix_n, g9, leN, ltN, if_neg (Nat.not_le.mpr hk), pk_mul, c0, e, if_neg n0, if_pos t1, bd_s, l1_s, nI_succ k]
          · have := r.2.1
            rw [e, leN (by omega) (by omega)] at this
            omega
        · by_cases t2 : b < d
          · refine ⟨v, ?_, no (fun r => ?_)⟩
            · simp (disch := omega) only [f_L_renter_l5, K139, K144, L9, L6, L1, gd_n, ix_n, g9, leN, ltN, if_neg (Nat.not_le.mpr hk), pk_mul, nI_add, c0, c1, e, e', if_neg n0, if_neg t1, if_pos t2, bd_s, l1_s]
            · have := r.2.2
              rw [e', leN (by omega) (by omega)] at this
              omega
          · refine ⟨nI k, ?_, Or.inr ⟨k, by omega, rfl, by rw [e]; exact m1_ne (by omega), by rw [e]; exact nI_le (by omega) (by omega), by rw [e']; exact nI_le (by omega) (by omega)⟩⟩
            simp (disch := omega) only [f_L_renter_l5, K139, K144, L9, L6, L1, gd_n, ix_n, g9, leN, ltN, if_neg (Nat.not_le.mpr hk), pk_mul, nI_add, c0, c1, e, e', if_neg n0, if_neg t1, if_neg t2, bd_s, l1_s])
    (by
      intro n v hP
      refine ⟨v, ?_, hP⟩
      simp (disch := omega) only [f_L_renter_l5, L9, K139, gd_n, ix_n, g9, leN, if_pos (Nat.le_refl C)]) (-1) (Or.inl ⟨rfl, fun k hk => absurd hk (by omega)⟩)
  refine ⟨v, ?_, q⟩
  unfold f_L_renter
  rw [show f_L_renter_l5 KF ν 139 144 (nI d) FU (-1) 0 = some v from e]
  rfl
theorem l_blacks {D L C : Nat} {ν : Mm} {f : Nat → Int32} (hr : LR ν f) (hw : WF f D L C) {l : Nat} (hl : l < L) : f_L_blacks KF ν 143 (nI l) = some (sumB f l 6) := by
  have hL := hw.2.1
  obtain ⟨v, e, q⟩ := lp0 (fun n k v => f_L_blacks_l4 KF ν 143 (nI l) n v (nI k)) 72 (by decide) (fun k v => v = sumB f l (k / 12) + bitS (f (86 + 10 * l + (2 + k / 12))) (k % 12)) (fun v => v = sumB f l 6)
    (by
      intro n k v hk hP
      have e1 : nI k / nI 12 = nI (k / 12) := pk_div (by omega) (by omega) (by omega)
      have e2 : nI k - nI (k / 12) * nI 12 = nI (k % 12) := by rw [← e1]; exact pk_rem (by omega) (by omega) (by omega)
      have e3 : nI 10 * nI l = nI (10 * l) := pk_mul _ _
      have e4 : ν.1 143 (10 * l + 2 + k / 12) = f (86 + 10 * l + (2 + k / 12)) := by rw [Nat.add_assoc]; exact hr.l (by omega) (by omega)
      refine Or.inr ⟨v + bitI (f (86 + 10 * l + (2 + k / 12))) (k % 12), ?_, ?_⟩
      · simp (disch := omega) only [f_L_blacks_l4, L72, leN, if_neg (Nat.not_le.mpr hk), L12, L10, L2, e1, e2, e3, nI_add, K143, gd_n, ix_n, e4, l1_s, nI_succ k]
        rfl
      · obtain ⟨x, hx, ex⟩ := wf_row hw hl (show k / 12 < 6 by omega)
        rw [hP]
        by_cases t : k % 12 = 11
        · have t1 : (k + 1) / 12 = k / 12 + 1 := by omega
          have t2 : (k + 1) % 12 = 0 := by omega
          rw [t1, t2, t, show bitS (f (86 + 10 * l + (2 + (k / 12 + 1)))) 0 = 0 from rfl, Int32.add_zero, show sumB f l (k / 12 + 1) = sumB f l (k / 12) + onesV (f (86 + 10 * l + (2 + k / 12))) from rfl, Int32.add_assoc]
          rw [ex, (ones_n hx).2.1]
          rfl
        · have t1 : (k + 1) / 12 = k / 12 := by omega
          have t2 : (k + 1) % 12 = k % 12 + 1 := by omega
          rw [t1, t2, Int32.add_assoc]
          rfl)
    (by
      intro n v hP
      refine ⟨v, ?_, ?_⟩
      · simp (disch := omega) only [f_L_blacks_l4, L72, leN, if_pos (Nat.le_refl 72)]
      · rw [hP]
        exact Int32.add_zero _) 0 rfl
  unfold f_L_blacks
  rw [show f_L_blacks_l4 KF ν 143 (nI l) FU 0 0 = some v from e, q]
  rfl
theorem sumB_b {f : Nat → Int32} {D L C l : Nat} (hw : WF f D L C) (hl : l < L) : ∀ n, n ≤ 6 → bnd (sumB f l n) 0 (12 * n)
  | 0, _ => ⟨0, by omega, by omega, rfl⟩
  | n + 1, hn => by
    obtain ⟨m, -, hm, em⟩ := sumB_b hw hl n (by omega)
    obtain ⟨x, hx, ex⟩ := wf_row hw hl (show n < 6 by omega)
    obtain ⟨-, -, o1, o2⟩ := ones_n hx
    obtain ⟨y, hy, ey⟩ := nI_of2 (n := 12) (M := 12) (by decide) (Int32.not_lt.mpr o1) o2
    exact ⟨m + y, by omega, by omega, by rw [show sumB f l (n + 1) = sumB f l n + onesV (f (86 + 10 * l + (2 + n))) from rfl, em, ex, ey, nI_add]⟩
theorem TK_iff {f : Nat → Int32} {D L C c o w : Nat} (hw : WF f D L C) (hw1 : 1 ≤ w) (how : o + w ≤ D) : TK f C c o w ↔ ∃ d k, o ≤ d ∧ d < o + w ∧ k < C ∧ k ≠ c ∧ rents f k d := by
  constructor
  · rintro ⟨k, k1, k2, k3⟩
    obtain ⟨d, d1, d2, d3⟩ := (over_rents hw k1 (show o ≤ o + w - 1 by omega) (by omega)).mp k3
    exact ⟨d, k, d1, by omega, k1, k2, d3⟩
  · rintro ⟨d, k, d1, d2, k1, k2, d3⟩
    exact ⟨k, k1, k2, (over_rents hw k1 (show o ≤ o + w - 1 by omega) (by omega)).mpr ⟨d, d1, by omega, d3⟩⟩
theorem l_why {D L C : Nat} {ν : Mm} {f : Nat → Int32} (hr : LR ν f) (hw : WF f D L C) {c l o w : Nat} (hc : c < C) (hl : l < L) (ho : o < 24) (ew : f (86 + 10 * l) = nI w) (hw1 : 1 ≤ w) (hw2 : w ≤ 12) : f_L_why KF ν 139 143 144 (nI c) (nI l) (nI o) = some (whyV f D C c l o w) := by
  have hD := hw.1
  have hL := hw.2.1
  have hC := hw.2.2.1
  have g0 : ν.1 139 0 = nI D := (hr.1 0 (by omega)).trans hD.1
  have l0 : ν.1 143 (10 * l) = nI w := (hr.l0 (by omega)).trans ew
  unfold f_L_why
  simp (disch := omega) only [L10, L0, pk_mul, K143, K139, gd_n, ix_n, l0, g0, nI_add, leN]
  by_cases t : o + w ≤ D
  · obtain ⟨v, e, q⟩ := lp (fun n d (_ : Unit) => f_L_why_l22 KF ν 139 143 144 (nI c) (nI l) (nI o) n (nI d)) (o + w) (fun d _ => o ≤ d ∧ ¬ ∃ i k, o ≤ i ∧ i < d ∧ k < C ∧ k ≠ c ∧ rents f k i)
      (fun r => (r = .inr () ∧ ¬ TK f C c o w) ∨ (r = .inl 2 ∧ TK f C c o w))
      (by
        rintro n d - hd ⟨hod, hP⟩
        obtain ⟨x, x1, x2⟩ := l_renter hr hw (d := d) (by omega)
        have nx : (∀ k, k < C → k ≠ c → ¬ rents f k d) → ¬ ∃ i k, o ≤ i ∧ i < d + 1 ∧ k < C ∧ k ≠ c ∧ rents f k i := by
          rintro hn ⟨i, k, i1, i2, i3, i4, i5⟩
          by_cases e : i = d
          · subst e
            exact hn k i3 i4 i5
          · exact hP ⟨i, k, i1, by omega, i3, i4, i5⟩
        rcases x2 with ⟨ex, n1⟩ | ⟨k, hk, ex, r⟩
        · refine Or.inr ⟨(), ?_, by omega, nx (fun k hk _ => n1 k hk)⟩
          simp (disch := omega) only [f_L_why_l22, L10, pk_mul, K143, gd_n, ix_n, l0, nI_add, leN, if_neg (Nat.not_le.mpr hd), x1, ex, bd_s, l1_s, if_pos (show (-1 : Int32) < 0 by decide), nI_succ d]
        · have n0 : ¬ nI k < 0 := nI_pos (by omega)
          by_cases hkc : k = c
          · subst hkc
            refine Or.inr ⟨(), ?_, by omega, nx (fun j hj hj' r' => hj' (hw.2.2.2.2.2.2.2.1 j k d hj hk (by omega) r' r))⟩
            simp (disch := omega) only [f_L_why_l22, L10, pk_mul, K143, gd_n, ix_n, l0, nI_add, leN, if_neg (Nat.not_le.mpr hd), x1, ex, bd_s, l1_s, if_neg n0, if_true, nI_succ d]
          · refine Or.inl ⟨.inl 2, ?_, Or.inr ⟨rfl, (TK_iff hw hw1 t).mpr ⟨d, k, hod, hd, hk, hkc, r⟩⟩⟩
            simp (disch := omega) only [f_L_why_l22, L10, pk_mul, K143, gd_n, ix_n, l0, nI_add, leN, if_neg (Nat.not_le.mpr hd), x1, ex, bd_s, l1_s, if_neg n0, eqN, if_neg hkc])
      (by
        rintro n - ⟨-, hP⟩
        refine ⟨.inr (), ?_, Or.inl ⟨rfl, fun h => hP ((TK_iff hw hw1 t).mp h)⟩⟩
        simp (disch := omega) only [f_L_why_l22, L10, pk_mul, K143, gd_n, ix_n, l0, nI_add, leN, if_pos (Nat.le_refl (o + w))]) w o () FU (by omega) (by unfold FU; omega) ⟨Nat.le_refl o, fun ⟨i, k, i1, i2, _⟩ => absurd i2 (by omega)⟩
    rw [if_pos t]
    unfold whyV
    rw [itc_f (show ¬ D < o + w by omega)]
    have e : f_L_why_l22 KF ν 139 143 144 (nI c) (nI l) (nI o) FU (nI o) = some v := e
    rw [e, bd_s]
    rcases q with ⟨rfl, q⟩ | ⟨rfl, q⟩
    · rw [itc_f q]
      have eb := l_blacks hr hw hl
      obtain ⟨m, -, hm, em⟩ := sumB_b hw hl 6 (Nat.le_refl 6)
      simp only [eb, bd_s, l1_s, em]
      by_cases z : m = 0
      · subst z
        rw [if_pos (by decide), itc_t L0.symm]
      · rw [if_neg (nI_ge (a := 0) (by omega) (by omega)), itc_f (nI_ne0 (by omega) (by omega))]
        rfl
    · rw [itc_t q]
  · rw [if_neg t]
    unfold whyV
    rw [itc_t (by omega)]
theorem l_price {D L C : Nat} {ν : Mm} {f : Nat → Int32} (hr : LR ν f) (hw : WF f D L C) {c l o w : Nat} (hc : c < C) (hl : l < L) (ew : f (86 + 10 * l) = nI w) (hw1 : 1 ≤ w) (hw2 : w ≤ 12) (how : o + w ≤ D) : f_L_price KF ν 139 141 143 144 (nI c) (nI l) (nI o) = some (priV f c l o w) := by
  have hD := hw.1
  have hL := hw.2.1
  have hC := hw.2.2.1
  have l0 : ν.1 143 (10 * l) = nI w := (hr.l0 (by omega)).trans ew
  have l1 := hr.l (show l < 6 by omega) (show 1 < 10 by decide)
  have g7 := hr.1 7 (by omega)
  obtain ⟨v, e, q1, m, q2, q3, q4⟩ := lp (fun n d (s : Int32 × Int32) => f_L_price_l42 KF ν 139 141 144 (nI c) (nI o) (sumB f l 6 * f (86 + 10 * l + 1) * f 7) (nI w) n s.1 s.2 (nI d)) (o + w)
    (fun d s => o ≤ d ∧ s.1 = sumW f o (d - o) ∧ ∃ m, s.2 = nI m ∧ m ≤ d - o ∧ (m = d - o ↔ ∀ i, o ≤ i → i < d → rents f c i))
    (fun s => s.1 = sumW f o w ∧ ∃ m, s.2 = nI m ∧ m ≤ w ∧ (m = w ↔ ∀ i, o ≤ i → i < o + w → rents f c i))
    (by
      rintro n d ⟨s1, s2⟩ hd ⟨hod, hs, m, em, hm, hiff⟩
      have em : s2 = nI m := em
      have hs : s1 = sumW f o (d - o) := hs
      subst em hs
      refine Or.inr ?_
      obtain ⟨x, x1, x2⟩ := l_renter hr hw (d := d) (by omega)
      have y2 : ν.1 141 d = f (14 + 3 * d + 1) := (hr.2.1 d (by omega)).2.1
      have hsum : sumW f o (d - o) + f (14 + 3 * d + 1) = sumW f o (d + 1 - o) := by
        rw [show d + 1 - o = (d - o) + 1 by omega, show sumW f o (d - o + 1) = sumW f o (d - o) + f (14 + 3 * (o + (d - o)) + 1) from rfl, show o + (d - o) = d by omega]
      by_cases rr : rents f c d
      · have ex : x = nI c := RNT.one hw (by omega) x2 (Or.inr ⟨c, hc, rfl, rr⟩)
        refine ⟨(sumW f o (d + 1 - o), nI (m + 1)), ?_, by omega, rfl, m + 1, rfl, by omega, ?_⟩
        · simp (disch := omega) only [f_L_price_l42, nI_add, leN, if_neg (Nat.not_le.mpr hd), K141, gd_n, ix_n, y2, hsum, l1_s, x1, bd_s, ex, if_true, L1]
        · constructor
          · intro e i h1 h2
            by_cases e9 : i = d
            · rw [e9]; exact rr
            · exact hiff.mp (by omega) i h1 (by omega)
          · intro h
            have := hiff.mpr (fun i h1 h2 => h i h1 (by omega))
            omega
      · have ex : ¬ x = nI c := by
          intro e
          rcases x2 with ⟨e1, -⟩ | ⟨k, hk, e1, r1⟩
          · exact m1_eq (by omega) e1 e
          · rw [e, eqN (by omega) (by omega)] at e1
            subst e1
            exact rr r1
        refine ⟨(sumW f o (d + 1 - o), nI m), ?_, by omega, rfl, m, rfl, by omega, ?_⟩
        · simp (disch := omega) only [f_L_price_l42, nI_add, leN, if_neg (Nat.not_le.mpr hd), K141, gd_n, ix_n, y2, hsum, l1_s, x1, bd_s, if_neg ex, Int32.add_zero, L1]
        · constructor
          · intro e
            omega
          · intro h
            exact absurd (h d hod (by omega)) rr)
    (by
      rintro n ⟨s1, s2⟩ ⟨hod, hs, m, em, hm, hiff⟩
      refine ⟨(s1, s2), ?_, ?_, m, em, by omega, ?_⟩
      · simp (disch := omega) only [f_L_price_l42, nI_add, leN, if_pos (Nat.le_refl (o + w))]
      · rw [show o + w - o = w by omega] at hs
        exact hs
      · rw [show o + w - o = w by omega] at hiff
        exact hiff) w o (0, 0) FU (by omega) (by unfold FU; omega) ⟨Nat.le_refl o, by rw [show o - o = 0 by omega]; rfl, 0, rfl, by omega, ⟨fun _ i h1 h2 => absurd h2 (by omega), fun _ => by omega⟩⟩
  obtain ⟨v1, v2⟩ := v
  have q1 : v1 = sumW f o w := q1
  have q2 : v2 = nI m := q2
  subst q1 q2
  have e : f_L_price_l42 KF ν 139 141 144 (nI c) (nI o) (sumB f l 6 * f (86 + 10 * l + 1) * f 7) (nI w) FU 0 0 (nI o) = some (sumW f o w, nI m) := e
  have wne : ¬ nI w = 0 := nI_ne0 (n := w) (by omega) (by omega)
  have e3 : (10 : Int32) * nI l = nI (10 * l) := by rw [L10]; exact pk_mul _ _
  have e4 : nI (10 * l) + (1 : Int32) = nI (10 * l + 1) := nI_1 _
  unfold f_L_price priV
  rw [l_blacks hr hw hl]
  simp (disch := omega) only [bd_s, l1_s, e3, e4, K143, K139, gd_n, ix_n, l0, l1]
  rw [show gd (inb 7 14) = gd (inb (nI 7) 14) from rfl, gd_n (by omega) (by omega), show ix 7 = 7 from rfl, g7, e]
  simp only [bd_s, l1_s, gd_t wne]
  by_cases q : ∀ i, o ≤ i → i < o + w → rents f c i
  · rw [itc_t q]
    have hm : m = w := q4.mpr q
    subst hm
    by_cases t : sumW f o m / nI m ≤ 900
    · rw [if_pos t, bd_s, if_pos (nI_le (Nat.le_refl m) (by omega))]
      by_cases t2 : sumW f o m / nI m < 900
      · rw [if_pos t2]
      · rw [if_neg t2, Int32.le_antisymm t (Int32.not_lt.mp t2)]
    · rw [if_neg t, bd_s, if_pos (nI_le (Nat.le_refl m) (by omega)), if_neg (fun h => t (Int32.le_of_lt h))]
  · rw [itc_f q]
    have hm : ¬ w ≤ m := fun h => q (q4.mp (by omega))
    have hm' : ¬ nI w ≤ nI m := by rw [leN (by omega) (by omega)]; exact hm
    by_cases t : sumW f o w / nI w ≤ 900
    · rw [if_pos t, bd_s, if_neg hm']
    · rw [if_neg t, bd_s, if_neg hm']
end PureL0
