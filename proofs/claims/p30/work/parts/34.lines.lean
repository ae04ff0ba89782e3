/-! PURE: the law's lines are the lines in numbers -/
section PureLines2
variable {K : Nat → Nat × Nat} {G E F U B l D bk o r : Nat} {P : PP} {ν : Mm}
def LD (P : PP) (o r : Nat) (s : QQ) (d : Nat) : QQ := (fun x => if x < d then hotD P o r (qh s) x - pg P else qh s x, fun x => if x < d then weaD P o r (qh s) (qy s) x else qy s x, fun x => if x < d then qu s x + nI (unD P o r (qh s) x) else qu s x, qt s + nI (SN (fun i => unD P o r (qh s) i) d), qb s + SN (fun i => bdD P o r (qh s) (qy s) i) d)
theorem LHd.e {D : Nat} {ν : Mm} {s t : QQ} (h : LHd G E F U D ν s) (e : ∀ x, x < D → qh t x = qh s x ∧ qy t x = qy s x ∧ qu t x = qu s x) (et : qt t = qt s) : LHd G E F U D ν t := by
  obtain ⟨h1, h2⟩ := h
  refine ⟨fun x hx => ?_, h2.trans et.symm⟩
  obtain ⟨e1, e2, e3⟩ := e x hx
  rw [e1, e2, e3]
  exact h1 x hx
theorem LD_0 {s : QQ} (x : Nat) : qh (LD P o r s 0) x = qh s x ∧ qy (LD P o r s 0) x = qy s x ∧ qu (LD P o r s 0) x = qu s x := by
  refine ⟨?_, ?_, ?_⟩
  · show (if x < 0 then hotD P o r (qh s) x - pg P else qh s x) = qh s x
    rw [if_neg (Nat.not_lt_zero x)]
  · show (if x < 0 then weaD P o r (qh s) (qy s) x else qy s x) = qy s x
    rw [if_neg (Nat.not_lt_zero x)]
  · show (if x < 0 then qu s x + nI (unD P o r (qh s) x) else qu s x) = qu s x
    rw [if_neg (Nat.not_lt_zero x)]
theorem LM_fr (hK : KG K G E F U B) {d Y un H1 g : Nat} (hd : d < D) : FL G E F U D ν (LM G E F U d ν Y un H1 g) := by
  obtain ⟨-, ⟨n1, n2, n3, n4⟩, ⟨n5, n6, n7⟩, n8, n9, n10⟩ := hK
  unfold LM
  refine ⟨((((FrI.rfl.sI (Or.inr (Or.inr (Or.inl rfl)))).sI (Or.inr (Or.inr (Or.inr rfl)))).sI (Or.inl rfl)).sI (Or.inr (Or.inl rfl))).sI (Or.inr (Or.inl rfl)), fun j h1 h2 => ?_, fun x hx => ⟨?_, ?_, ?_⟩⟩
  · simp (disch := omega) only [sI_no, sI_of]
  · simp (disch := omega) only [sI_no, sI_of]
  · simp (disch := omega) only [sI_no, sI_of]
  · simp (disch := omega) only [sI_no, sI_of]
theorem LM_at (hK : KG K G E F U B) {d Y un H1 g : Nat} : (LM G E F U d ν Y un H1 g).1 E d = nI (H1 - g) ∧ (LM G E F U d ν Y un H1 g).1 F d = nI Y ∧ (LM G E F U d ν Y un H1 g).1 U d = ν.1 U d + nI un ∧ (LM G E F U d ν Y un H1 g).1 G 10 = ν.1 G 10 + nI un ∧ ∀ x, x ≠ d → (LM G E F U d ν Y un H1 g).1 E x = ν.1 E x ∧ (LM G E F U d ν Y un H1 g).1 F x = ν.1 F x ∧ (LM G E F U d ν Y un H1 g).1 U x = ν.1 U x := by
  obtain ⟨-, ⟨n1, n2, n3, n4⟩, ⟨n5, n6, n7⟩, n8, n9, n10⟩ := hK
  unfold LM
  refine ⟨?_, ?_, ?_, ?_, fun x hx => ⟨?_, ?_, ?_⟩⟩
  · simp (disch := omega) only [sI_at]
  · simp (disch := omega) only [sI_no, sI_at]
  · simp (disch := omega) only [sI_no, sI_at]
  · simp (disch := omega) only [sI_no, sI_at]
  · simp (disch := omega) only [sI_no, sI_of]
  · simp (disch := omega) only [sI_no, sI_of]
  · simp (disch := omega) only [sI_no, sI_of]
/-- what a dot becomes -/
theorem LD_next (hK : KG K G E F U B) {s : QQ} {d : Nat} (hd : d < D) (h : LHd G E F U D ν (LD P o r s d)) {Y un H1 : Nat} (eY : Y = weaD P o r (qh s) (qy s) d) (eu : un = unD P o r (qh s) d) (eH : H1 = hotD P o r (qh s) d) : LHd G E F U D (LM G E F U d ν Y un H1 (pg P)) (LD P o r s (d + 1)) := by
  obtain ⟨m1, m2, m3, m4, m5⟩ := LM_at (ν := ν) hK (d := d) (Y := Y) (un := un) (H1 := H1) (g := pg P)
  obtain ⟨h1, h2⟩ := h
  refine ⟨fun x hx => ?_, ?_⟩
  · by_cases e : x = d
    · subst e
      rw [m1, m2, m3, eY, eu, eH, (h1 x hx).2.2]
      refine ⟨?_, ?_, ?_⟩
      · show _ = nI (if x < x + 1 then hotD P o r (qh s) x - pg P else qh s x)
        rw [if_pos (Nat.lt_succ_self x)]
      · show _ = nI (if x < x + 1 then weaD P o r (qh s) (qy s) x else qy s x)
        rw [if_pos (Nat.lt_succ_self x)]
      · show (if x < x then qu s x + nI (unD P o r (qh s) x) else qu s x) + nI (unD P o r (qh s) x) = (if x < x + 1 then qu s x + nI (unD P o r (qh s) x) else qu s x)
        rw [if_pos (Nat.lt_succ_self x), if_neg (Nat.lt_irrefl x)]
    · obtain ⟨z1, z2, z3⟩ := m5 x e
      obtain ⟨y1, y2, y3⟩ := h1 x hx
      rw [z1, z2, z3, y1, y2, y3]
      refine ⟨?_, ?_, ?_⟩
      · show nI (if x < d then hotD P o r (qh s) x - pg P else qh s x) = nI (if x < d + 1 then hotD P o r (qh s) x - pg P else qh s x)
        by_cases c : x < d
        · rw [if_pos c, if_pos (by omega)]
        · rw [if_neg c, if_neg (by omega)]
      · show nI (if x < d then weaD P o r (qh s) (qy s) x else qy s x) = nI (if x < d + 1 then weaD P o r (qh s) (qy s) x else qy s x)
        by_cases c : x < d
        · rw [if_pos c, if_pos (by omega)]
        · rw [if_neg c, if_neg (by omega)]
      · show (if x < d then qu s x + nI (unD P o r (qh s) x) else qu s x) = (if x < d + 1 then qu s x + nI (unD P o r (qh s) x) else qu s x)
        by_cases c : x < d
        · rw [if_pos c, if_pos (by omega)]
        · rw [if_neg c, if_neg (by omega)]
  · rw [m4, h2, eu]
    show qt s + nI (SN (fun i => unD P o r (qh s) i) d) + nI (unD P o r (qh s) d) = qt s + nI (SN (fun i => unD P o r (qh s) i) d + unD P o r (qh s) d)
    rw [Int32.add_assoc, nI_add]
/-- a line -/
theorem l_line (hK : KG K G E F U B) (hN : PNc l P bk) (hC : LC l P D G B ν) (hD : D ≤ 24) (ho : o < 24) (hr : r < 6) (how : o + pw P ≤ D) {s : QQ} (hs : LHd G E F U D ν s) (hq : QB D s) :
    ∃ ν', f_L_lines_l31 K G E F U B (nI l) (nI o) (nI (pdu P)) (nI r) FU ν (nI (qb s)) 0 = some (nI (qb (LN P o r s)), ν') ∧ LHd G E F U D ν' (LN P o r s) ∧ FL G E F U D ν ν' ∧ ν'.1 G 13 = ν.1 G 13 := by
  have n13 : ∀ {μ : Mm} {d Y un H1 g : Nat}, (LM G E F U d μ Y un H1 g).1 G 13 = μ.1 G 13 := by
    intro μ d Y un H1 g
    obtain ⟨-, ⟨n1, n2, n3, n4⟩, ⟨n5, n6, n7⟩, n8, n9, n10⟩ := hK
    unfold LM
    simp (disch := omega) only [sI_no, sI_of]
  obtain ⟨a, e, q1, q2, q3, q4⟩ := lp0 (fun n d (t : Mm × Int32) => f_L_lines_l31 K G E F U B (nI l) (nI o) (nI (pdu P)) (nI r) n t.1 t.2 (nI d)) D (by unfold FU; omega)
    (fun d t => LHd G E F U D t.1 (LD P o r s d) ∧ FL G E F U D ν t.1 ∧ t.2 = nI (qb (LD P o r s d)) ∧ t.1.1 G 13 = ν.1 G 13)
    (fun a => a.1 = nI (qb (LD P o r s D)) ∧ LHd G E F U D a.2 (LD P o r s D) ∧ FL G E F U D ν a.2 ∧ a.2.1 G 13 = ν.1 G 13)
    (by
      rintro n d ⟨μ, v⟩ hd ⟨p1, p2, p3, p4⟩
      have p3 : v = nI (qb (LD P o r s d)) := p3
      subst p3
      have p1 : LHd G E F U D μ (LD P o r s d) := p1
      have p2 : FL G E F U D ν μ := p2
      have p4 : μ.1 G 13 = ν.1 G 13 := p4
      have hC' : LC l P D G B μ := hC.fr hK p2
      obtain ⟨b1, b2⟩ := hq d hd
      obtain ⟨x1, x2, -⟩ := p1.1 d hd
      have x1 : μ.1 E d = nI (qh s d) := by
        rw [x1]
        show nI (if d < d then _ else qh s d) = _
        rw [if_neg (Nat.lt_irrefl d)]
      have x2 : μ.1 F d = nI (qy s d) := by
        rw [x2]
        show nI (if d < d then _ else qy s d) = _
        rw [if_neg (Nat.lt_irrefl d)]
      have esn : qb (LD P o r s (d + 1)) = qb (LD P o r s d) + bdD P o r (qh s) (qy s) d := by
        show qb s + (SN (fun i => bdD P o r (qh s) (qy s) i) d + bdD P o r (qh s) (qy s) d) = _
        rw [← Nat.add_assoc]
        rfl
      refine Or.inr ?_
      by_cases q : o ≤ d ∧ d < o + pw P
      · by_cases t : bitI (pR P r) (d - o) = 1
        · have eac : acB P o r d = true := by rw [acB_in q, blB_t t]
          refine ⟨(_, _), ln_black hK hN hC' hD hd ho hr x1 x2 b1 b2 q t, LD_next hK hd p1 ?_ ?_ ?_, p2.trans (LM_fr hK hd), ?_, n13.trans p4⟩
          · unfold weaD unD
            rw [eac]
            rfl
          · unfold unD
            rw [eac]
            rfl
          · unfold hotD
            rw [eac]
            rfl
          · show nI (qb (LD P o r s d)) + nI (if ptl P < fdN P (qy s d) then 1 else 0) = nI (qb (LD P o r s (d + 1)))
            rw [esn, nI_add]
            congr 2
            unfold bdD bdN
            rw [if_pos q, blB_t t]
            rfl
        · have eac : acB P o r d = false := by rw [acB_in q, blB_f t]
          refine ⟨(_, _), ln_white hK hN hC' hD hd ho hr x1 x2 b1 b2 q t, LD_next hK hd p1 ?_ ?_ ?_, p2.trans (LM_fr hK hd), ?_, n13.trans p4⟩
          · unfold weaD unD
            rw [eac]
            show qy s d = if qy s d + 0 ≤ 9999 then qy s d + 0 else 9999
            rw [Nat.add_zero, if_pos b2]
          · unfold unD
            rw [eac]
            rfl
          · unfold hotD
            rw [eac]
            rfl
          · show nI (qb (LD P o r s d)) + nI (if psm P < qh s d then 1 else 0) = nI (qb (LD P o r s (d + 1)))
            rw [esn, nI_add]
            congr 2
            unfold bdD bdN
            rw [if_pos q, blB_f t]
            rfl
      · refine ⟨(_, _), ln_out hK hN hC' hD hd ho x1 x2 b1 b2 q, LD_next hK hd p1 ?_ ?_ ?_, p2.trans (LM_fr hK hd), ?_, n13.trans p4⟩
        · exact (weaD_no q b2).symm
        · exact (unD_no q).symm
        · exact (hotD_no q).symm
        · show nI (qb (LD P o r s d)) + nI 0 = nI (qb (LD P o r s (d + 1)))
          rw [esn, nI_add, bdD_no q])
    (by
      rintro n ⟨μ, v⟩ ⟨p1, p2, p3, p4⟩
      have hC' : LC l P D G B μ := hC.fr hK p2
      obtain ⟨⟨k1, -⟩, -⟩ := hK
      have g0 : μ.1 G 0 = nI D := hC'.1.1
      refine ⟨(v, μ), ?_, p3, p1, p2, p4⟩
      simp (disch := omega) only [f_L_lines_l31, L0, k1, gd_n, ix_n, g0, leN, if_pos (Nat.le_refl D)]) (ν, nI (qb s)) ⟨hs.e (fun x hx => LD_0 x) (Int32.add_zero _), FL.refl, rfl, rfl⟩
  obtain ⟨v, ν'⟩ := a
  have pt := SN_part (t := fun i => unD P o r (qh s) i) (o := o) (w := pw P) (fun d hd => unD_no (by omega)) D
  have pb := SN_part (t := fun i => bdD P o r (qh s) (qy s) i) (o := o) (w := pw P) (fun d hd => bdD_no (by omega)) D
  have ei : (if D ≤ o then 0 else if D ≤ o + pw P then D - o else pw P) = pw P := by
    have := hN.2.2.1
    rw [if_neg (by omega)]
    by_cases c : D ≤ o + pw P
    · rw [if_pos c]
      omega
    · rw [if_neg c]
  rw [ei] at pt pb
  have eb : qb (LD P o r s D) = qb (LN P o r s) := by
    show qb s + SN (fun i => bdD P o r (qh s) (qy s) i) D = qb s + SN (fun c => bdD P o r (qh s) (qy s) (o + c)) (pw P)
    rw [pb]
  have et : qt (LN P o r s) = qt (LD P o r s D) := by
    show qt s + nI (SN (fun c => unD P o r (qh s) (o + c)) (pw P)) = qt s + nI (SN (fun i => unD P o r (qh s) i) D)
    rw [pt]
  have q1 : v = nI (qb (LD P o r s D)) := q1
  rw [eb] at q1
  subst q1
  refine ⟨ν', e, (show LHd G E F U D ν' (LD P o r s D) from q2).e (fun x hx => ?_) et, q3, q4⟩
  refine ⟨?_, ?_, ?_⟩
  · show hotD P o r (qh s) x - pg P = (if x < D then hotD P o r (qh s) x - pg P else qh s x)
    rw [if_pos hx]
  · show weaD P o r (qh s) (qy s) x = (if x < D then weaD P o r (qh s) (qy s) x else qy s x)
    rw [if_pos hx]
  · show qu s x + nI (unD P o r (qh s) x) = (if x < D then qu s x + nI (unD P o r (qh s) x) else qu s x)
    rw [if_pos hx]
/-- all the lines of a label -/
theorem l_lines (hK : KG K G E F U B) (hN : PNc l P bk) (hC : LC l P D G B ν) (hbk : ν.1 B (10 * l + 1) = nI bk) (hD : D ≤ 24) (ho : o < 24) (how : o + pw P ≤ D) {s : QQ} (hs : LHd G E F U D ν s) (hq : QB D s) (hb0 : qb s = 0) :
    ∃ ν', f_L_lines K ν G E F U B (nI l) (nI o) = some (nI (qb (PL P o 6 s)), ν') ∧ LHd G E F U D ν' (PL P o 6 s) ∧ FL G E F U D ν ν' ∧ ν'.1 G 13 = ν.1 G 13 + nI 6 := by
  have hdu9 : pdu P ≤ 90 := by have := hN.1.2; have := hN.2.1; omega
  have hl := hN.1.1
  obtain ⟨a, e, q1, q2, q3, q4⟩ := lp0 (fun n r (t : Mm × Int32) => f_L_lines_l21 K G E F U B (nI l) (nI o) (nI (pdu P)) n t.1 t.2 (nI r)) 6 (by decide)
    (fun r t => LHd G E F U D t.1 (PL P o r s) ∧ FL G E F U D ν t.1 ∧ t.2 = nI (qb (PL P o r s)) ∧ t.1.1 G 13 = ν.1 G 13 + nI r)
    (fun a => a.1 = nI (qb (PL P o 6 s)) ∧ LHd G E F U D a.2 (PL P o 6 s) ∧ FL G E F U D ν a.2 ∧ a.2.1 G 13 = ν.1 G 13 + nI 6)
    (by
      rintro n r ⟨μ, v⟩ hr ⟨p1, p2, p3, p4⟩
      have p3 : v = nI (qb (PL P o r s)) := p3
      subst p3
      have p1 : LHd G E F U D μ (PL P o r s) := p1
      have p2 : FL G E F U D ν μ := p2
      have p4 : μ.1 G 13 = ν.1 G 13 + nI r := p4
      have hC' : LC l P D G B μ := hC.fr hK p2
      obtain ⟨μ1, e1, x1, x2, x3⟩ := l_line hK hN hC' hD ho hr how p1 (PL_b hdu9 hq r)
      have hK0 := hK
      obtain ⟨⟨k1, k2, k3, k4, k5⟩, ⟨n1, n2, n3, n4⟩, -⟩ := hK
      refine Or.inr ⟨(sI μ1 G 13 (μ1.1 G 13 + 1), nI (qb (PL P o (r + 1) s))), ?_, ⟨fun x hx => ?_, ?_⟩, ⟨?_, fun j h1 h2 => ?_, fun x hx => ?_⟩, rfl, ?_⟩
      · have e1' : f_L_lines_l31 K G E F U B (nI l) (nI o) (nI (pdu P)) (nI r) FU μ (nI (qb (PL P o r s))) (nI 0) = some (nI (qb (LN P o r (PL P o r s))), μ1) := e1
        simp (disch := omega) only [f_L_lines_l21, L6, L0, leN, if_neg (Nat.not_le.mpr hr), e1', bd_s, l1_s, L13, k1, gd_n, ix_n, nI_succ r]
        rfl
      · rw [sI_rw (by omega), sI_rw (by omega), sI_rw (by omega)]
        exact x1.1 x hx
      · rw [sI_of (by omega)]
        exact x1.2
      · exact (p2.1.trans x2.1).sI (Or.inl rfl)
      · rw [sI_of h2]
        exact (x2.2.1 j h1 h2).trans (p2.2.1 j h1 h2)
      · rw [sI_rw (by omega), sI_rw (by omega), sI_rw (by omega)]
        exact (p2.trans x2).2.2 x hx
      · rw [sI_at, x3, p4, nI_succ, Int32.add_assoc])
    (by
      rintro n ⟨μ, v⟩ ⟨p1, p2, p3, p4⟩
      refine ⟨(v, μ), ?_, p3, p1, p2, p4⟩
      simp (disch := omega) only [f_L_lines_l21, L6, leN, if_pos (Nat.le_refl 6)]) (ν, nI (qb s)) ⟨hs, FL.refl, rfl, (Int32.add_zero _).symm⟩
  obtain ⟨v, ν'⟩ := a
  have q1 : v = nI (qb (PL P o 6 s)) := q1
  subst q1
  refine ⟨ν', ?_, q2, q3, q4⟩
  obtain ⟨⟨k1, k2, k3, k4, k5⟩, -⟩ := hK
  have e : f_L_lines_l21 K G E F U B (nI l) (nI o) (nI (pdu P)) FU ν (nI (qb s)) 0 = some (nI (qb (PL P o 6 s)), ν') := e
  rw [hb0] at e
  have edu : nI (10 * bk) = nI (pdu P) := by rw [hN.1.2]
  unfold f_L_lines
  rw [show (10 : Int32) * nI l = nI (10 * l) from pk_mul 10 l, nI_1, k5, gd_n (by omega) (by omega), ix_n (by omega), hbk, show (10 : Int32) * nI bk = nI (10 * bk) from pk_mul 10 bk, edu]
  simp only [l1_s]
  rw [show f_L_lines_l21 K G E F U B (nI l) (nI o) (nI (pdu P)) FU ν 0 0 = some (nI (qb (PL P o 6 s)), ν') from e]
  rfl
end PureLines2
