/-! PURE: the law's check isSo -/
section PureIsSo
theorem l_rented {D L C : Nat} {ν : Mm} {f : Nat → Int32} (hr : LR ν f) (hC : f 9 = nI C ∧ C ≤ 6) (hP : ∀ k, k < C → f (146 + 6 * k) = -1 ∨ ∃ a, a < 1000 ∧ f (146 + 6 * k) = nI a) : f_L_rented KF ν 139 144 = some (Sm (rentT f) C) := by
  have g9 : ν.1 139 9 = nI C := (hr.1 9 (by omega)).trans hC.1
  have e := lsum (fun n d v => f_L_rented_l4 KF ν 139 144 n v (nI d)) (rentT f) C (by unfold FU; omega)
    (by
      intro n k v hk
      have c0 := hr.c0 (show k < 6 by omega)
      have c1 := hr.c (show k < 6 by omega) (show 1 < 6 by decide)
      unfold rentT
      rcases hP k hk with e | ⟨a, ha, e⟩
      · simp (disch := omega) only [f_L_rented_l4, K139, K144, L9, L6, gd_n, ix_n, g9, leN, if_neg (Nat.not_le.mpr hk), pk_mul, c0, e, if_true, bd_s, l1_s, nI_succ k]
        rw [if_neg (by decide)]
        rfl
      · have n0 : nI 0 ≤ nI a := nI_le (by omega) (by omega)
        rw [if_neg (by rw [e]; exact m1_ne ha)]
        simp (disch := omega) only [f_L_rented_l4, K139, K144, L9, L6, L1, L0, gd_n, ix_n, g9, leN, if_neg (Nat.not_le.mpr hk), pk_mul, nI_add, c0, c1, e, if_pos (Nat.zero_le a), bd_s, l1_s])
    (by
      intro n v
      simp (disch := omega) only [f_L_rented_l4, L9, K139, gd_n, ix_n, g9, leN, if_pos (Nat.le_refl C)])
  unfold f_L_rented
  rw [show f_L_rented_l4 KF ν 139 144 FU 0 0 = some _ from e]
  rfl
theorem wf_rn {f : Nat → Int32} {D L C : Nat} (hw : WF f D L C) : ∀ k, k < C → f (146 + 6 * k) = -1 ∨ ∃ a, a < 1000 ∧ f (146 + 6 * k) = nI a := fun k hk => by
  have hD := hw.1
  rcases hw.2.2.2.2.2.2.1 k hk with ⟨e, -⟩ | ⟨a, b, hab, hb, e, -⟩
  · exact Or.inl e
  · exact Or.inr ⟨a, by omega, e⟩
/-- fading by the law, wherever its numbers lie -/
theorem l_fade {K : Nat → Nat × Nat} {ν : Mm} {G y lim fd : Nat} (hK : K G = (8, 14)) (e3 : ν.1 G 3 = nI lim) (e4 : ν.1 G 4 = nI fd) (hy : y ≤ 9999) (hl : lim ≤ 9999) (hf1 : 1 ≤ fd) (hf : fd ≤ 100) : f_L_fade K ν G (nI y) = some (nI ((y - lim) / fd)) := by
  have fne : ¬ nI fd = 0 := nI_ne0 (n := fd) (by omega) (by omega)
  unfold f_L_fade
  simp (disch := omega) only [L3, L4, hK, gd_n, ix_n, e3, e4, leN]
  by_cases t : y ≤ lim
  · rw [if_pos t, show y - lim = 0 by omega, Nat.zero_div]
    rfl
  · rw [if_neg t, gd_t fne, pk_sub (by omega), pk_div (by omega) (by omega) (by omega)]
    rfl
theorem LR.e {ν : Mm} {f : Nat → Int32} (h : LR ν f) {d : Nat} (hd : d < 24) : ν.1 140 d = f (14 + 3 * d) := (h.2.1 d hd).1
theorem LR.y {ν : Mm} {f : Nat → Int32} (h : LR ν f) {d : Nat} (hd : d < 24) : ν.1 141 d = f (14 + 3 * d + 1) := (h.2.1 d hd).2.1
theorem LR.u {ν : Mm} {f : Nat → Int32} (h : LR ν f) {d : Nat} (hd : d < 24) : ν.1 142 d = f (14 + 3 * d + 2) := (h.2.1 d hd).2.2
theorem one0 : ¬ (1 : Int32) = 0 := by decide
theorem gdT {α : Type} [Decidable True] {k : Option α} : gd True k = k := gd_t trivial
/-- the dots -/
theorem s_dots {D L C : Nat} {ν : Mm} {f : Nat → Int32} (h : CR D L C ν f) (hr : LR ν f) : f_L_isSo_l18 KF ν 0 139 140 141 142 143 144 0 0 FU 1 0 0 0 = some (1, Sm (fun d => f (14 + 3 * d + 1)) D, Sm (fun d => f (14 + 3 * d)) D) := by
  have hw := h.2.2
  have hD := hw.1
  have g0 : ν.1 139 0 = nI D := (hr.1 0 (by omega)).trans hD.1
  obtain ⟨-, -, b3, b4, -⟩ := hw.2.2.2.1
  obtain ⟨a3, -, c3⟩ := nat_b b3 (by omega)
  obtain ⟨a4, d4, c4⟩ := nat_b b4 (by omega)
  have e3 : ν.1 139 3 = nI (nat (f 3)) := (hr.1 3 (by omega)).trans a3
  have e4 : ν.1 139 4 = nI (nat (f 4)) := (hr.1 4 (by omega)).trans a4
  obtain ⟨a, e, q⟩ := lp0 (fun n d (s : Int32 × Int32) => f_L_isSo_l18 KF ν 0 139 140 141 142 143 144 0 0 n 1 s.1 s.2 (nI d)) D (by unfold FU; omega)
    (fun d s => s.1 = Sm (fun d => f (14 + 3 * d + 1)) d ∧ s.2 = Sm (fun d => f (14 + 3 * d)) d) (fun a => a = (1, Sm (fun d => f (14 + 3 * d + 1)) D, Sm (fun d => f (14 + 3 * d)) D))
    (by
      rintro n d ⟨s1, s2⟩ hd ⟨p1, p2⟩
      have p1 : s1 = Sm (fun d => f (14 + 3 * d + 1)) d := p1
      have p2 : s2 = Sm (fun d => f (14 + 3 * d)) d := p2
      subst p1 p2
      refine Or.inr ⟨(Sm (fun d => f (14 + 3 * d + 1)) (d + 1), Sm (fun d => f (14 + 3 * d)) (d + 1)), ?_, rfl, rfl⟩
      obtain ⟨v0, v1, ⟨x, v2, v2'⟩, v3, v4⟩ := c_dotV h hd
      obtain ⟨x', w1, w2⟩ := l_renter hr hw hd
      have exx : x = x' := RNT.one hw hd v2' w2
      subst exx
      have q0 := q_dot h hd (j := 0) (by decide) v0
      have q1 := q_dot h hd (j := 1) (by decide) v1
      have q2 := q_dot h hd (j := 2) (by decide) v2
      have q3 := q_dot h hd (j := 3) (by decide) v3
      have q4 := q_dot h hd (j := 4) (by decide) v4
      obtain ⟨ay, -, cy⟩ := nat_b (hw.2.2.2.2.1 d hd).2 (by omega)
      have ef : f_L_fade KF ν 139 (f (14 + 3 * d + 1)) = some (fadV f d) := by
        rw [ay]
        refine (l_fade K139 e3 e4 cy c3 d4 c4).trans ?_
        unfold fadV
        rfl
      have y0 := hr.e (show d < 24 by omega)
      have y1 := hr.y (show d < 24 by omega)
      have y2 := hr.u (show d < 24 by omega)
      show f_L_isSo_l18 KF ν 0 139 140 141 142 143 144 0 0 (n + 1) 1 (Sm (fun d => f (14 + 3 * d + 1)) d) (Sm (fun d => f (14 + 3 * d)) d) (nI d) = _
      simp only [f_L_isSo_l18]
      rw [show gd (inb 0 (KF 139).2) = gd (inb (nI 0) 14) from by rw [K139]; rfl, gd_n (by omega) (by omega), show ix 0 = 0 from rfl, g0, if_neg (by rw [leN (by omega) (by omega)]; omega), gd_t one0]
      simp (disch := omega) only [K140, K141, K142, gd_n, ix_n, l1_s, bd_s, y0, y1, y2, q0, q1, q2, q3, q4, w1, ef, gdT, nI_1]
      rfl)
    (by
      rintro n ⟨s1, s2⟩ ⟨p1, p2⟩
      refine ⟨(1, s1, s2), ?_, ?_⟩
      · show f_L_isSo_l18 KF ν 0 139 140 141 142 143 144 0 0 (n + 1) 1 s1 s2 (nI D) = _
        simp only [f_L_isSo_l18]
        rw [show gd (inb 0 (KF 139).2) = gd (inb (nI 0) 14) from by rw [K139]; rfl, gd_n (by omega) (by omega), show ix 0 = 0 from rfl, g0, if_pos (Int32.le_refl _)]
      · have p1 : s1 = _ := p1
        have p2 : s2 = _ := p2
        rw [p1, p2]) (0, 0) ⟨rfl, rfl⟩
  rw [q] at e
  exact e
theorem s_rows {D L C l : Nat} {ν : Mm} {f : Nat → Int32} (h : CR D L C ν f) (hr : LR ν f) (hl : l < L) (w1 w2 w3 w4 : Int32) : f_L_isSo_l175 KF ν 0 139 141 143 144 w1 w2 w3 w4 (nI l) FU 1 (emV f l 0) 0 = some (1, emV f l 6) := by
  have hL := h.2.2.2.1
  obtain ⟨a, e, q⟩ := lp0 (fun n r (s : Int32) => f_L_isSo_l175 KF ν 0 139 141 143 144 w1 w2 w3 w4 (nI l) n 1 s (nI r)) 6 (by decide)
    (fun r s => s = emV f l r) (fun a => a = (1, emV f l 6))
    (by
      rintro n r s hr6 rfl
      refine Or.inr ⟨emV f l (r + 1), ?_, rfl⟩
      have e4 : ν.1 143 (10 * l + 2 + r) = f (86 + 10 * l + (2 + r)) := by rw [Nat.add_assoc]; exact hr.l (by omega) (by omega)
      have q0 := q_row h hl hr6
      have e3 : nI 10 * nI l = nI (10 * l) := pk_mul _ _
      have g1 : gd (¬ ((1 : Int32) = 0)) (α := Int32 × Int32) = fun k => k := by funext k; exact gd_t one0
      simp (disch := omega) only [f_L_isSo_l175, L6, leN, if_neg (Nat.not_le.mpr hr6), L10, L2, e3, nI_add, K143, gd_n, ix_n, e4, l1_s, bd_s, q0, g1, gdT, nI_1]
      rfl)
    (by
      rintro n s rfl
      refine ⟨(1, emV f l 6), ?_, rfl⟩
      simp (disch := omega) only [f_L_isSo_l175, L6, leN, if_pos (Nat.le_refl 6)]) (emV f l 0) rfl
  rw [q] at e
  exact e
theorem s_labels {D L C : Nat} {ν : Mm} {f : Nat → Int32} (h : CR D L C ν f) (hr : LR ν f) (w1 w2 w3 w4 : Int32) : f_L_isSo_l144 KF ν 0 139 141 143 144 w1 w2 w3 w4 FU 1 0 = some 1 := by
  have hw := h.2.2
  have hL := hw.2.1
  have g8 : ν.1 139 8 = nI L := (hr.1 8 (by omega)).trans hL.1
  obtain ⟨a, e, q⟩ := lp0 (fun n l (_ : Unit) => f_L_isSo_l144 KF ν 0 139 141 143 144 w1 w2 w3 w4 n 1 (nI l)) L (by unfold FU; omega)
    (fun _ _ => True) (fun a => a = 1)
    (by
      rintro n l - hl -
      refine Or.inr ⟨(), ?_, trivial⟩
      have e3 : nI 10 * nI l = nI (10 * l) := pk_mul _ _
      have l0 := hr.l0 (show l < 6 by omega)
      have l1 := hr.l (show l < 6 by omega) (show 1 < 10 by decide)
      have l8 := hr.l (show l < 6 by omega) (show 8 < 10 by decide)
      have l9 := hr.l (show l < 6 by omega) (show 9 < 10 by decide)
      have er := s_rows h hr hl w1 w2 w3 w4
      have eb := l_blacks hr hw hl
      have q0 : f_L_labelOf KF ν 0 (nI l) 0 = some (f (86 + 10 * l)) := q_label h hl (j := 0) (by omega)
      have q1 : f_L_labelOf KF ν 0 (nI l) 1 = some (f (86 + 10 * l + 1)) := q_label h hl (j := 1) (by omega)
      have q2 : f_L_labelOf KF ν 0 (nI l) 2 = some (sumB f l 6) := q_label h hl (j := 2) (by omega)
      have q3 : f_L_labelOf KF ν 0 (nI l) 3 = some (f (86 + 10 * l + 8)) := q_label h hl (j := 3) (by omega)
      have q4 : f_L_labelOf KF ν 0 (nI l) 4 = some (f (86 + 10 * l + 9)) := q_label h hl (j := 4) (by omega)
      have q5 : f_L_labelOf KF ν 0 (nI l) 5 = some (emV f l 6) := q_label h hl (j := 5) (by omega)
      show f_L_isSo_l144 KF ν 0 139 141 143 144 w1 w2 w3 w4 (n + 1) 1 (nI l) = _
      simp only [f_L_isSo_l144]
      rw [show gd (inb 8 (KF 139).2) = gd (inb (nI 8) 14) from by rw [K139]; rfl, gd_n (by omega) (by omega), show ix 8 = 8 from rfl, g8, if_neg (by rw [leN (by omega) (by omega)]; omega), gd_t one0, L10, e3, show (nI (10 * l) + 1 : Int32) = nI (10 * l + 1) from nI_1 _, show (nI (10 * l) + 8 : Int32) = nI (10 * l + 8) from nI_add _ 8, show (nI (10 * l) + 9 : Int32) = nI (10 * l + 9) from nI_add _ 9]
      simp (disch := omega) only [K143, gd_n, ix_n, l0, l1, l8, l9, l1_s]
      rw [show f_L_isSo_l175 KF ν 0 139 141 143 144 w1 w2 w3 w4 (nI l) FU 1 (((1 : Int32) <<< (f (86 + 10 * l) &&& 31)) - 1) 0 = some (1, emV f l 6) from er]
      simp only [bd_s, l1_s, gd_t one0, q0, q1, q2, q3, q4, q5, eb, gdT, nI_1])
    (by
      rintro n - -
      refine ⟨1, ?_, rfl⟩
      show f_L_isSo_l144 KF ν 0 139 141 143 144 w1 w2 w3 w4 (n + 1) 1 (nI L) = _
      simp only [f_L_isSo_l144]
      rw [show gd (inb 8 (KF 139).2) = gd (inb (nI 8) 14) from by rw [K139]; rfl, gd_n (by omega) (by omega), show ix 8 = 8 from rfl, g8, if_pos (Int32.le_refl _)]) () trivial
  rw [q] at e
  exact e
theorem s_cust {D L C c : Nat} {ν : Mm} {f : Nat → Int32} (h : CR D L C ν f) (hr : LR ν f) (hc : c < C) (w1 w2 w3 w4 : Int32) : f_L_isSo_l432 KF ν 0 139 141 144 w1 w2 w3 w4 (nI c) FU 1 0 = some 1 := by
  have hC := h.2.2.2.2.1
  obtain ⟨a, e, q⟩ := lp0 (fun n j (_ : Unit) => f_L_isSo_l432 KF ν 0 139 141 144 w1 w2 w3 w4 (nI c) n 1 (nI j)) 6 (by decide)
    (fun _ _ => True) (fun a => a = 1)
    (by
      rintro n j - hj -
      refine Or.inr ⟨(), ?_, trivial⟩
      have e3 : nI 6 * nI c = nI (6 * c) := pk_mul _ _
      have c0 := hr.c (show c < 6 by omega) hj
      have q0 := q_customer h hc hj
      have g1 : gd (¬ ((1 : Int32) = 0)) (α := Int32) = fun k => k := by funext k; exact gd_t one0
      simp (disch := omega) only [f_L_isSo_l432, L6, leN, if_neg (Nat.not_le.mpr hj), g1, q0, bd_s, e3, nI_add, K144, gd_n, ix_n, c0, l1_s, gdT, nI_1])
    (by
      rintro n - -
      refine ⟨1, ?_, rfl⟩
      simp (disch := omega) only [f_L_isSo_l432, L6, leN, if_pos (Nat.le_refl 6)]) () trivial
  rw [q] at e
  exact e
def soldT (f : Nat → Int32) (k : Nat) : Int32 := f (146 + 6 * k + 4)
theorem s_custs {D L C : Nat} {ν : Mm} {f : Nat → Int32} (h : CR D L C ν f) (hr : LR ν f) (w1 w2 : Int32) : f_L_isSo_l374 KF ν 0 139 141 144 w1 w2 FU 1 0 0 0 = some (1, Sm (earnT f) C, Sm (soldT f) C) := by
  have hw := h.2.2
  have hC := hw.2.2.1
  have g9 : ν.1 139 9 = nI C := (hr.1 9 (by omega)).trans hC.1
  obtain ⟨a, e, q⟩ := lp0 (fun n k (s : Int32 × Int32) => f_L_isSo_l374 KF ν 0 139 141 144 w1 w2 n 1 s.1 s.2 (nI k)) C (by unfold FU; omega)
    (fun k s => s.1 = Sm (earnT f) k ∧ s.2 = Sm (soldT f) k) (fun a => a = (1, Sm (earnT f) C, Sm (soldT f) C))
    (by
      rintro n k ⟨s1, s2⟩ hk ⟨p1, p2⟩
      have p1 : s1 = Sm (earnT f) k := p1
      have p2 : s2 = Sm (soldT f) k := p2
      subst p1 p2
      refine Or.inr ⟨(Sm (earnT f) (k + 1), Sm (soldT f) (k + 1)), ?_, rfl, rfl⟩
      have e3 : nI 6 * nI k = nI (6 * k) := pk_mul _ _
      have c2 := hr.c (show k < 6 by omega) (show 2 < 6 by decide)
      have c3 := hr.c (show k < 6 by omega) (show 3 < 6 by decide)
      have c4 := hr.c (show k < 6 by omega) (show 4 < 6 by decide)
      show f_L_isSo_l374 KF ν 0 139 141 144 w1 w2 (n + 1) 1 (Sm (earnT f) k) (Sm (soldT f) k) (nI k) = _
      simp only [f_L_isSo_l374]
      rw [show gd (inb 9 (KF 139).2) = gd (inb (nI 9) 14) from by rw [K139]; rfl, gd_n (by omega) (by omega), show ix 9 = 9 from rfl, g9, if_neg (by rw [leN (by omega) (by omega)]; omega), gd_t one0, L6, e3, show (nI (6 * k) + 2 : Int32) = nI (6 * k + 2) from nI_add _ 2, show (nI (6 * k) + 3 : Int32) = nI (6 * k + 3) from nI_add _ 3, show (nI (6 * k) + 4 : Int32) = nI (6 * k + 4) from nI_add _ 4]
      simp (disch := omega) only [K144, gd_n, ix_n, c2, c3, c4, l1_s]
      rw [s_cust h hr hk]
      simp only [bd_s, l1_s, nI_1]
      rfl)
    (by
      rintro n ⟨s1, s2⟩ ⟨p1, p2⟩
      refine ⟨(1, s1, s2), ?_, ?_⟩
      · show f_L_isSo_l374 KF ν 0 139 141 144 w1 w2 (n + 1) 1 s1 s2 (nI C) = _
        simp only [f_L_isSo_l374]
        rw [show gd (inb 9 (KF 139).2) = gd (inb (nI 9) 14) from by rw [K139]; rfl, gd_n (by omega) (by omega), show ix 9 = 9 from rfl, g9, if_pos (Int32.le_refl _)]
      · have p1 : s1 = _ := p1
        have p2 : s2 = _ := p2
        rw [p1, p2]) (0, 0) ⟨rfl, rfl⟩
  rw [q] at e
  exact e
theorem s_worn {D L C : Nat} {ν : Mm} {f : Nat → Int32} (h : CR D L C ν f) (hr : LR ν f) (w1 w2 w3 w4 w5 : Int32) : f_L_isSo_l491 KF ν 0 139 141 144 w1 w2 w3 w4 w5 FU 0 0 = some (nI (worN f D)) := by
  have hw := h.2.2
  have hD := hw.1
  have g0 : ν.1 139 0 = nI D := (hr.1 0 (by omega)).trans hD.1
  obtain ⟨a, e, q⟩ := lp0 (fun n d (s : Int32) => f_L_isSo_l491 KF ν 0 139 141 144 w1 w2 w3 w4 w5 n s (nI d)) D (by unfold FU; omega)
    (fun d s => s = nI (worN f d)) (fun a => a = nI (worN f D))
    (by
      rintro n d s hd rfl
      refine Or.inr ⟨nI (worN f (d + 1)), ?_, rfl⟩
      obtain ⟨m0, -⟩ := worN_lt (f := f) d
      have y1 := hr.y (show d < 24 by omega)
      have y2 := hr.y (show worN f d < 24 by omega)
      have ew : worN f (d + 1) = if f (14 + 3 * d + 1) ≤ f (14 + 3 * worN f d + 1) then worN f d else d := rfl
      show f_L_isSo_l491 KF ν 0 139 141 144 w1 w2 w3 w4 w5 (n + 1) (nI (worN f d)) (nI d) = _
      simp only [f_L_isSo_l491]
      rw [show gd (inb 0 (KF 139).2) = gd (inb (nI 0) 14) from by rw [K139]; rfl, gd_n (by omega) (by omega), show ix 0 = 0 from rfl, g0, if_neg (by rw [leN (by omega) (by omega)]; omega)]
      simp (disch := omega) only [K141, gd_n, ix_n, y1, y2, l1_s]
      by_cases t : f (14 + 3 * d + 1) ≤ f (14 + 3 * worN f d + 1)
      · rw [if_pos t] at ew
        rw [if_pos t, ew, nI_1]
      · rw [if_neg t] at ew
        rw [if_neg t, ew, nI_1])
    (by
      rintro n s e
      refine ⟨s, ?_, e⟩
      show f_L_isSo_l491 KF ν 0 139 141 144 w1 w2 w3 w4 w5 (n + 1) s (nI D) = _
      simp only [f_L_isSo_l491]
      rw [show gd (inb 0 (KF 139).2) = gd (inb (nI 0) 14) from by rw [K139]; rfl, gd_n (by omega) (by omega), show ix 0 = 0 from rfl, g0, if_pos (Int32.le_refl _)]) 0 rfl
  rw [q] at e
  exact e
theorem s_whole {D L C : Nat} {ν : Mm} {f : Nat → Int32} (h : CR D L C ν f) (hr : LR ν f) (w1 w2 w3 w4 w5 : Int32) : f_L_isSo_l528 KF ν 0 139 144 w1 w2 w3 w4 w5 FU 1 0 = some 1 := by
  obtain ⟨a, e, q⟩ := lp0 (fun n j (_ : Unit) => f_L_isSo_l528 KF ν 0 139 144 w1 w2 w3 w4 w5 n 1 (nI j)) 10 (by decide)
    (fun _ _ => True) (fun a => a = 1)
    (by
      rintro n j - hj -
      refine Or.inr ⟨(), ?_, trivial⟩
      have gj := hr.1 j (by omega)
      have n0 : ¬ nI j < 0 := nI_pos (by omega)
      have n18 : nI j < 18 := nI_lt (b := 18) (by omega) (by omega)
      have n17 : ¬ nI j = 17 := fun e => by
        have := (nI_eq (a := j) (b := 17) (by omega) (by omega)).mp e
        omega
      have q0 := q_whole h n17 (by rw [if_neg n0, if_pos n18]) ((c_wholeV h).1 j hj)
      have g1 : gd (¬ ((1 : Int32) = 0)) (α := Int32) = fun k => k := by funext k; exact gd_t one0
      simp (disch := omega) only [f_L_isSo_l528, L10, leN, if_neg (Nat.not_le.mpr hj), g1, q0, bd_s, K139, gd_n, ix_n, gj, l1_s, gdT, nI_1])
    (by
      rintro n - -
      refine ⟨1, ?_, rfl⟩
      simp (disch := omega) only [f_L_isSo_l528, L10, leN, if_pos (Nat.le_refl 10)]) () trivial
  rw [q] at e
  exact e
theorem l_isSo {D L C : Nat} {ν : Mm} {f : Nat → Int32} (h : CR D L C ν f) (hr : LR ν f) (ht : ν.1 1 1 = 0) (hs : Sm (soldT f) C = f 11) : f_L_isSo KF ν 0 139 140 141 142 143 144 = some 1 := by
  have hw := h.2.2
  have hD := hw.1
  have hL := hw.2.1
  have hC := hw.2.2.1
  obtain ⟨-, v10, v11, v12, v13, v14, v15, v16⟩ := c_wholeV h
  have q10 := q_whole h (j := 10) (by decide) (by decide) v10
  have q11 := q_whole h (j := 11) (by decide) (by decide) v11
  have q12 := q_whole h (j := 12) (by decide) (by decide) v12
  have q13 := q_whole h (j := 13) (by decide) (by decide) v13
  have q14 := q_whole h (j := 14) (by decide) (by decide) v14
  have q15 := q_whole h (j := 15) (by decide) (by decide) v15
  have q16 := q_whole h (j := 16) (by decide) (by decide) v16
  have q17 := q_text h.1 ht
  have qm : f_X7_mostWorn KF ν 0 = some (nI (worN f D)) := by
    unfold f_X7_mostWorn
    rw [r_03 h.1]
    simp only [bd_s, r_90 h.1, c_worn h]
  have el := l_rented (D := D) (L := L) hr hC (wf_rn hw)
  have g0 : ν.1 139 0 = nI D := (hr.1 0 (by omega)).trans hD.1
  have g8 : ν.1 139 8 = nI L := (hr.1 8 (by omega)).trans hL.1
  have g9 : ν.1 139 9 = nI C := (hr.1 9 (by omega)).trans hC.1
  have g10 := hr.1 10 (by omega)
  have g11 := hr.1 11 (by omega)
  have g12 := hr.1 12 (by omega)
  have g13 := hr.1 13 (by omega)
  obtain ⟨m, -, hm, em⟩ := Sm_bnd (t := fun d => f (14 + 3 * d)) (M := 90) (D := D) (fun d hd => (hw.2.2.2.2.1 d hd).1) (by omega)
  have hheat : ¬ (90 * nI D < Sm (fun d => f (14 + 3 * d)) D) := by
    rw [em, show (90 : Int32) * nI D = nI (90 * D) from pk_mul 90 D, ltN (by omega) (by omega)]
    omega
  have G0 : ∀ k : Option Int32, gd (inb 0 (KF 139).2) k = k := fun k => by rw [K139]; exact gd_t (by decide)
  have G8 : ∀ k : Option Int32, gd (inb 8 (KF 139).2) k = k := fun k => by rw [K139]; exact gd_t (by decide)
  have G9 : ∀ k : Option Int32, gd (inb 9 (KF 139).2) k = k := fun k => by rw [K139]; exact gd_t (by decide)
  have G10 : ∀ k : Option Int32, gd (inb 10 (KF 139).2) k = k := fun k => by rw [K139]; exact gd_t (by decide)
  have G11 : ∀ k : Option Int32, gd (inb 11 (KF 139).2) k = k := fun k => by rw [K139]; exact gd_t (by decide)
  have G12 : ∀ k : Option Int32, gd (inb 12 (KF 139).2) k = k := fun k => by rw [K139]; exact gd_t (by decide)
  have G13 : ∀ k : Option Int32, gd (inb 13 (KF 139).2) k = k := fun k => by rw [K139]; exact gd_t (by decide)
  unfold f_L_isSo
  rw [s_dots h hr]
  simp only [bd_s, l1_s]
  rw [s_labels h hr]
  simp only [bd_s, l1_s]
  rw [s_custs h hr]
  simp only [bd_s, l1_s]
  rw [s_worn h hr]
  simp only [bd_s, l1_s]
  rw [s_whole h hr]
  simp only [bd_s, l1_s, gd_t one0]
  have gh : ∀ k : Option Int32, gd (¬ (90 * nI D < Sm (fun d => f (14 + 3 * d)) D)) k = k := fun k => gd_t hheat
  obtain ⟨x1, -⟩ := q_dotX h
  have x2 := q_labelX h
  have x3 := q_customerX h
  simp only [G0, G8, G9, G10, G11, G12, G13, show ix 0 = 0 from rfl, show ix 8 = 8 from rfl, show ix 9 = 9 from rfl, show ix 10 = 10 from rfl, show ix 11 = 11 from rfl, show ix 12 = 12 from rfl, show ix 13 = 13 from rfl, g0, g8, g9, g10, g11, g12, g13, hs, gdT, gh, qm, bd_s, q10, q11, q12, q13, q14, q15, q16, q17, el, x1, x2, x3]
end PureIsSo
