/-! PURE: the law's lines, wherever its rows lie -/
section PureLines
theorem l_copies {K : Nat → Nat × Nat} {ν : Mm} {a b N : Nat} (ha : K a = (8, N)) (hb : K b = (8, N)) (hN : N ≤ 24) (hab : a ≠ b) : ∃ ν', f_L_copies K ν a b = some ν' ∧ FrI (fun q => q = b) ν ν' ∧ ∀ j, j < N → ν'.1 b j = ν.1 a j := by
  obtain ⟨v, e, q1, q2⟩ := lp0 (fun n d μ => f_L_copies_l2 K a b n μ (nI d)) N (by unfold FU; omega)
    (fun d μ => FrI (fun q => q = b) ν μ ∧ ∀ j, j < d → μ.1 b j = ν.1 a j) (fun μ => FrI (fun q => q = b) ν μ ∧ ∀ j, j < N → μ.1 b j = ν.1 a j)
    (by
      rintro n d μ hd ⟨p1, p2⟩
      have ea : μ.1 a = ν.1 a := p1.2 a hab
      refine Or.inr ⟨sI μ b d (ν.1 a d), ?_, p1.sI rfl, fun j hj => ?_⟩
      · have e0 : ¬ Int32.ofNat N ≤ nI d := by
          show ¬ nI N ≤ nI d
          rw [leN (by omega) (by omega)]
          omega
        simp (disch := omega) only [f_L_copies_l2, ha, hb, if_neg e0, gd_n, ix_n, ea, l1_s, nI_succ d]
      · by_cases e1 : j = d
        · rw [e1, sI_at]
        · rw [sI_of e1]
          exact p2 j (by omega))
    (by
      rintro n μ ⟨p1, p2⟩
      refine ⟨μ, ?_, p1, p2⟩
      have e0 : Int32.ofNat N ≤ nI N := Int32.le_refl _
      simp (disch := omega) only [f_L_copies_l2, ha, if_pos e0]) ν ⟨FrI.rfl, fun j hj => absurd hj (by omega)⟩
  refine ⟨v, ?_, q1, q2⟩
  unfold f_L_copies
  rw [show f_L_copies_l2 K a b FU ν 0 = some v from e]
  rfl
theorem some_ite {α : Type} {c : Prop} [Decidable c] {a b : α} : (if c then some a else some b) = some (if c then a else b) := by split <;> rfl
theorem L9999 : (9999 : Int32) = nI 9999 := by decide +kernel
/-- where the law's rows lie -/
def KG (K : Nat → Nat × Nat) (G E F U B : Nat) : Prop := (K G = (8, 14) ∧ K E = (8, 24) ∧ K F = (8, 24) ∧ K U = (8, 24) ∧ K B = (8, 60)) ∧ (G ≠ E ∧ G ≠ F ∧ G ≠ U ∧ G ≠ B) ∧ (E ≠ F ∧ E ≠ U ∧ E ≠ B) ∧ F ≠ U ∧ F ≠ B ∧ U ≠ B
/-- what the lines want to know -/
def LC (l : Nat) (P : PP) (D G B : Nat) (ν : Mm) : Prop := (ν.1 G 0 = nI D ∧ ν.1 G 1 = nI (pg P) ∧ ν.1 G 2 = nI (psm P) ∧ ν.1 G 3 = nI (plm P) ∧ ν.1 G 4 = nI (pfd P) ∧ ν.1 G 5 = nI (ptl P)) ∧ ν.1 B (10 * l) = nI (pw P) ∧ ∀ r, r < 6 → ν.1 B (10 * l + 2 + r) = pR P r
/-- the law's dots are those of a state -/
def LHd (G E F U D : Nat) (ν : Mm) (s : QQ) : Prop := (∀ x, x < D → ν.1 E x = nI (qh s x) ∧ ν.1 F x = nI (qy s x) ∧ ν.1 U x = qu s x) ∧ ν.1 G 10 = qt s
/-- what lines may change -/
def FL (G E F U D : Nat) (ν ν' : Mm) : Prop := FrI (fun a => a = G ∨ a = E ∨ a = F ∨ a = U) ν ν' ∧ (∀ j, j ≠ 10 → j ≠ 13 → ν'.1 G j = ν.1 G j) ∧ ∀ x, D ≤ x → ν'.1 E x = ν.1 E x ∧ ν'.1 F x = ν.1 F x ∧ ν'.1 U x = ν.1 U x
theorem FL.refl {G E F U D : Nat} {ν : Mm} : FL G E F U D ν ν := ⟨FrI.rfl, fun _ _ _ => rfl, fun _ _ => ⟨rfl, rfl, rfl⟩⟩
theorem FL.trans {G E F U D : Nat} {a b c : Mm} (h : FL G E F U D a b) (h' : FL G E F U D b c) : FL G E F U D a c := ⟨h.1.trans h'.1, fun j h1 h2 => (h'.2.1 j h1 h2).trans (h.2.1 j h1 h2), fun x hx => ⟨(h'.2.2 x hx).1.trans (h.2.2 x hx).1, (h'.2.2 x hx).2.1.trans (h.2.2 x hx).2.1, (h'.2.2 x hx).2.2.trans (h.2.2 x hx).2.2⟩⟩
theorem LC.fr {l : Nat} {P : PP} {K : Nat → Nat × Nat} {D G E F U B : Nat} {ν ν' : Mm} (hK : KG K G E F U B) (h : LC l P D G B ν) (f : FL G E F U D ν ν') : LC l P D G B ν' := by
  obtain ⟨-, ⟨-, -, -, n4⟩, ⟨-, -, n7⟩, -, n9, n10⟩ := hK
  have eB : ν'.1 B = ν.1 B := f.1.2 B (fun h => by rcases h with h | h | h | h <;> omega)
  unfold LC
  rw [f.2.1 0 (by omega) (by omega), f.2.1 1 (by omega) (by omega), f.2.1 2 (by omega) (by omega), f.2.1 3 (by omega) (by omega), f.2.1 4 (by omega) (by omega), f.2.1 5 (by omega) (by omega), eB]
  exact h
/-- one dot's work -/
def LM (G E F U d : Nat) (ν : Mm) (Y un H1 g : Nat) : Mm := sI (sI (sI (sI (sI ν F d (nI Y)) U d (ν.1 U d + nI un)) G 10 (ν.1 G 10 + nI un)) E d (nI H1)) E d (nI (H1 - g))
section Step
variable {K : Nat → Nat × Nat} {G E F U B l D bk o r d n h y : Nat} {P : PP} {ν : Mm} {v : Int32}
theorem ln_out (hK : KG K G E F U B) (hN : PNc l P bk) (hC : LC l P D G B ν) (hD : D ≤ 24) (hd : d < D) (ho : o < 24) (eh : ν.1 E d = nI h) (ey : ν.1 F d = nI y) (hh : h ≤ 90) (hy : y ≤ 9999) (q : ¬ (o ≤ d ∧ d < o + pw P)) :
    f_L_lines_l31 K G E F U B (nI l) (nI o) (nI (pdu P)) (nI r) (n + 1) ν v (nI d) = f_L_lines_l31 K G E F U B (nI l) (nI o) (nI (pdu P)) (nI r) n (LM G E F U d ν y 0 h (pg P)) (v + nI 0) (nI (d + 1)) := by
  obtain ⟨⟨k1, k2, k3, k4, k5⟩, ⟨n1, n2, n3, n4⟩, ⟨n5, n6, n7⟩, n8, n9, n10⟩ := hK
  obtain ⟨⟨g0, g1, g2, g3, g4, g5⟩, b0, bR⟩ := hC
  have hl := hN.1.1
  have hw := hN.2.2.1
  have hg := hN.2.2.2.1
  unfold LM
  by_cases t1 : d < o
  · have tn : nI d - nI o < nI 0 := pk_sneg (by omega) t1
    by_cases t2 : h ≤ pg P
    · simp (disch := omega) only [f_L_lines_l31, L0, L1, L2, L5, L10, L9999, k1, k2, k3, k4, k5, gd_n, ix_n, g0, g1, leN, if_neg (Nat.not_le.mpr hd), l1_s, bd_s, if_pos tn, if_true, ey, eh, nI_add, Nat.add_zero, if_pos hy, sI_no, sI_of, sI_at, Nat.le_refl, if_pos t2, Nat.sub_eq_zero_of_le t2]
    · simp (disch := omega) only [f_L_lines_l31, L0, L1, L2, L5, L10, L9999, k1, k2, k3, k4, k5, gd_n, ix_n, g0, g1, leN, if_neg (Nat.not_le.mpr hd), l1_s, bd_s, if_pos tn, if_true, ey, eh, nI_add, Nat.add_zero, if_pos hy, sI_no, sI_of, sI_at, Nat.le_refl, if_neg t2, pk_sub]
  · have tn : ¬ nI (d - o) < nI 0 := by
      rw [ltN (by omega) (by omega)]
      omega
    have tw : pw P ≤ d - o := by omega
    by_cases t2 : h ≤ pg P
    · simp (disch := omega) only [f_L_lines_l31, L0, L1, L2, L5, L10, L9999, k1, k2, k3, k4, k5, gd_n, ix_n, g0, g1, leN, if_neg (Nat.not_le.mpr hd), l1_s, bd_s, pk_sub, if_neg tn, pk_mul, b0, if_pos tw, if_true, ey, eh, nI_add, Nat.add_zero, if_pos hy, sI_no, sI_of, sI_at, Nat.le_refl, if_pos t2, Nat.sub_eq_zero_of_le t2]
    · simp (disch := omega) only [f_L_lines_l31, L0, L1, L2, L5, L10, L9999, k1, k2, k3, k4, k5, gd_n, ix_n, g0, g1, leN, if_neg (Nat.not_le.mpr hd), l1_s, bd_s, pk_sub, if_neg tn, pk_mul, b0, if_pos tw, if_true, ey, eh, nI_add, Nat.add_zero, if_pos hy, sI_no, sI_of, sI_at, Nat.le_refl, if_neg t2]
theorem ln_white (hK : KG K G E F U B) (hN : PNc l P bk) (hC : LC l P D G B ν) (hD : D ≤ 24) (hd : d < D) (ho : o < 24) (hr : r < 6) (eh : ν.1 E d = nI h) (ey : ν.1 F d = nI y) (hh : h ≤ 90) (hy : y ≤ 9999) (q : o ≤ d ∧ d < o + pw P) (hb : ¬ bitI (pR P r) (d - o) = 1) :
    f_L_lines_l31 K G E F U B (nI l) (nI o) (nI (pdu P)) (nI r) (n + 1) ν v (nI d) = f_L_lines_l31 K G E F U B (nI l) (nI o) (nI (pdu P)) (nI r) n (LM G E F U d ν y 0 h (pg P)) (v + nI (if psm P < h then 1 else 0)) (nI (d + 1)) := by
  obtain ⟨⟨k1, k2, k3, k4, k5⟩, ⟨n1, n2, n3, n4⟩, ⟨n5, n6, n7⟩, n8, n9, n10⟩ := hK
  obtain ⟨⟨g0, g1, g2, g3, g4, g5⟩, b0, bR⟩ := hC
  have hl := hN.1.1
  have hw := hN.2.2.1
  have hg := hN.2.2.2.1
  have hsm := hN.2.2.2.2.1
  have bR := bR r hr
  have hb' : ¬ (pR P r >>> (nI (d - o) &&& 31)) &&& nI 1 = nI 1 := by
    rw [← L1]
    exact hb
  have tn : ¬ nI (d - o) < nI 0 := by
    rw [ltN (by omega) (by omega)]
    omega
  have tw : ¬ pw P ≤ d - o := by omega
  have o1 : ¬ nI 1 = nI 0 := by decide
  unfold LM
  by_cases t3 : h ≤ psm P
  · rw [if_neg (by omega)]
    by_cases t2 : h ≤ pg P
    · simp (disch := omega) only [f_L_lines_l31, L0, L1, L2, L5, L10, L9999, k1, k2, k3, k4, k5, gd_n, ix_n, g0, g1, g2, leN, if_neg (Nat.not_le.mpr hd), l1_s, bd_s, pk_sub, if_neg tn, pk_mul, b0, bR, if_neg tw, if_neg o1, if_neg hb', if_pos t3, if_true, ey, eh, nI_add, Nat.add_zero, if_pos hy, sI_no, sI_of, sI_at, Nat.le_refl, if_pos t2, Nat.sub_eq_zero_of_le t2]
    · simp (disch := omega) only [f_L_lines_l31, L0, L1, L2, L5, L10, L9999, k1, k2, k3, k4, k5, gd_n, ix_n, g0, g1, g2, leN, if_neg (Nat.not_le.mpr hd), l1_s, bd_s, pk_sub, if_neg tn, pk_mul, b0, bR, if_neg tw, if_neg o1, if_neg hb', if_pos t3, if_true, ey, eh, nI_add, Nat.add_zero, if_pos hy, sI_no, sI_of, sI_at, Nat.le_refl, if_neg t2]
  · rw [if_pos (by omega)]
    by_cases t2 : h ≤ pg P
    · simp (disch := omega) only [f_L_lines_l31, L0, L1, L2, L5, L10, L9999, k1, k2, k3, k4, k5, gd_n, ix_n, g0, g1, g2, leN, if_neg (Nat.not_le.mpr hd), l1_s, bd_s, pk_sub, if_neg tn, pk_mul, b0, bR, if_neg tw, if_neg o1, if_neg hb', if_neg t3, if_true, ey, eh, nI_add, Nat.add_zero, if_pos hy, sI_no, sI_of, sI_at, Nat.le_refl, if_pos t2, Nat.sub_eq_zero_of_le t2]
    · simp (disch := omega) only [f_L_lines_l31, L0, L1, L2, L5, L10, L9999, k1, k2, k3, k4, k5, gd_n, ix_n, g0, g1, g2, leN, if_neg (Nat.not_le.mpr hd), l1_s, bd_s, pk_sub, if_neg tn, pk_mul, b0, bR, if_neg tw, if_neg o1, if_neg hb', if_neg t3, if_true, ey, eh, nI_add, Nat.add_zero, if_pos hy, sI_no, sI_of, sI_at, Nat.le_refl, if_neg t2]
theorem ln_black (hK : KG K G E F U B) (hN : PNc l P bk) (hC : LC l P D G B ν) (hD : D ≤ 24) (hd : d < D) (ho : o < 24) (hr : r < 6) (eh : ν.1 E d = nI h) (ey : ν.1 F d = nI y) (hh : h ≤ 90) (hy : y ≤ 9999) (q : o ≤ d ∧ d < o + pw P) (hb : bitI (pR P r) (d - o) = 1) :
    f_L_lines_l31 K G E F U B (nI l) (nI o) (nI (pdu P)) (nI r) (n + 1) ν v (nI d) = f_L_lines_l31 K G E F U B (nI l) (nI o) (nI (pdu P)) (nI r) n (LM G E F U d ν (if y + unN P h ≤ 9999 then y + unN P h else 9999) (unN P h) (if h < pdu P then pdu P else h) (pg P)) (v + nI (if ptl P < fdN P y then 1 else 0)) (nI (d + 1)) := by
  obtain ⟨⟨k1, k2, k3, k4, k5⟩, ⟨n1, n2, n3, n4⟩, ⟨n5, n6, n7⟩, n8, n9, n10⟩ := hK
  obtain ⟨⟨g0, g1, g2, g3, g4, g5⟩, b0, bR⟩ := hC
  have hl := hN.1.1
  have hdu := hN.1.2
  have hbk := hN.2.1
  have hw := hN.2.2.1
  have hg := hN.2.2.2.1
  have hlm := hN.2.2.2.2.2.1
  have hfd := hN.2.2.2.2.2.2.1
  have htl := hN.2.2.2.2.2.2.2
  have bR := bR r hr
  have hb' : (pR P r >>> (nI (d - o) &&& 31)) &&& nI 1 = nI 1 := by
    rw [← L1]
    exact hb
  have tn : ¬ nI (d - o) < nI 0 := by
    rw [ltN (by omega) (by omega)]
    omega
  have tw : ¬ pw P ≤ d - o := by omega
  have o1 : ¬ nI 1 = nI 0 := by decide
  have ef : f_L_fade K ν G (nI y) = some (nI (fdN P y)) := l_fade k1 g3 g4 hy hlm hfd.1 hfd.2
  have hf9 : fdN P y ≤ 9999 := by
    unfold fdN
    exact Nat.le_trans (Nat.div_le_self _ _) (by omega)
  have u9 : unN P h ≤ 9 := unN_le (by omega) h
  obtain ⟨bd9, eb⟩ : ∃ b : Nat, (if fdN P y ≤ ptl P then nI 0 else nI 1) = nI b ∧ b = (if ptl P < fdN P y then 1 else 0) := by
    by_cases t : fdN P y ≤ ptl P
    · exact ⟨0, if_pos t, (if_neg (by omega)).symm⟩
    · exact ⟨1, if_neg t, (if_pos (by omega)).symm⟩
  rw [← eb.2]
  obtain ⟨Y, eY⟩ : ∃ Y : Nat, Y = (if y + unN P h ≤ 9999 then y + unN P h else 9999) := ⟨_, rfl⟩
  have eY' : (if y + unN P h ≤ 9999 then nI (y + unN P h) else nI 9999) = nI Y := by
    rw [eY]
    split <;> rfl
  rw [← eY]
  unfold LM
  by_cases t4 : pdu P ≤ h
  · have u0 : unN P h = 0 := by unfold unN; omega
    rw [u0] at eY
    have eY2 : Y = y := by rw [eY, Nat.add_zero, if_pos hy]
    rw [u0, eY2, if_neg (show ¬ h < pdu P by omega)]
    by_cases t2 : h ≤ pg P
    · simp (disch := omega) only [f_L_lines_l31, L0, L1, L2, L5, L10, L9999, k1, k2, k3, k4, k5, gd_n, ix_n, g0, g1, g5, leN, if_neg (Nat.not_le.mpr hd), l1_s, bd_s, pk_sub, if_neg tn, pk_mul, b0, bR, if_neg tw, if_neg o1, if_pos hb', ef, some_ite, eb.1, if_pos t4, ey, eh, nI_add, Nat.add_zero, if_pos hy, sI_no, sI_of, sI_at, Nat.le_refl, if_true, if_pos t2, Nat.sub_eq_zero_of_le t2]
    · simp (disch := omega) only [f_L_lines_l31, L0, L1, L2, L5, L10, L9999, k1, k2, k3, k4, k5, gd_n, ix_n, g0, g1, g5, leN, if_neg (Nat.not_le.mpr hd), l1_s, bd_s, pk_sub, if_neg tn, pk_mul, b0, bR, if_neg tw, if_neg o1, if_pos hb', ef, some_ite, eb.1, if_pos t4, ey, eh, nI_add, Nat.add_zero, if_pos hy, sI_no, sI_of, sI_at, Nat.le_refl, if_true, if_neg t2]
  · have eun : nI ((pdu P - h) / 10) + (if pdu P - h - (pdu P - h) / 10 * 10 ≤ 0 then nI 0 else nI 1) = nI (unN P h) := by
      unfold unN
      by_cases z : pdu P - h - (pdu P - h) / 10 * 10 ≤ 0
      · rw [if_pos z, nI_add, show (pdu P - h) / 10 + 0 = (pdu P - h + 9) / 10 by omega]
      · rw [if_neg z, nI_add, show (pdu P - h) / 10 + 1 = (pdu P - h + 9) / 10 by omega]
    have up : ¬ unN P h ≤ 0 := by unfold unN; omega
    rw [if_pos (show h < pdu P by omega)]
    by_cases t2 : pdu P ≤ pg P
    · simp (disch := omega) only [f_L_lines_l31, L0, L1, L2, L5, L10, L9999, k1, k2, k3, k4, k5, gd_n, ix_n, g0, g1, g5, leN, if_neg (Nat.not_le.mpr hd), l1_s, bd_s, pk_sub, pk_div, if_neg tn, pk_mul, b0, bR, if_neg tw, if_neg o1, if_pos hb', ef, some_ite, eb.1, if_neg t4, ey, eh, eun, nI_add, eY', if_neg up, sI_no, sI_of, sI_at, if_pos t2, Nat.sub_eq_zero_of_le t2]
    · simp (disch := omega) only [f_L_lines_l31, L0, L1, L2, L5, L10, L9999, k1, k2, k3, k4, k5, gd_n, ix_n, g0, g1, g5, leN, if_neg (Nat.not_le.mpr hd), l1_s, bd_s, pk_sub, pk_div, if_neg tn, pk_mul, b0, bR, if_neg tw, if_neg o1, if_pos hb', ef, some_ite, eb.1, if_neg t4, ey, eh, eun, nI_add, eY', if_neg up, sI_no, sI_of, sI_at, if_neg t2]
end Step
end PureLines
