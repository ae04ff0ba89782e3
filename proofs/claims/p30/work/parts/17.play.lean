/-! PURE: printing on the class's heads -/
section PurePlay
/-- what changes: a head; a row's dots -/
def FC (hb : Nat) (μ μ' : Mm) : Prop := FrI (fun a => hb ≤ a ∧ a ≤ hb + 3) μ μ' ∧ μ'.1 hb 0 = μ.1 hb 0
theorem FC.refl {hb : Nat} {μ : Mm} : FC hb μ μ := ⟨FrI.rfl, rfl⟩
theorem FC.trans {hb : Nat} {μ μ' μ'' : Mm} (h : FC hb μ μ') (h' : FC hb μ' μ'') : FC hb μ μ'' := ⟨h.1.trans h'.1, h'.2.trans h.2⟩
theorem arc (a b c : Int32) : a + b + c = a + c + b := by rw [Int32.add_assoc, Int32.add_comm b c, ← Int32.add_assoc]
theorem lt1_le0 (x : Int32) : (x < nI 1) = (x ≤ nI 0) := propext (by rw [← L0, ← L1, Int32.lt_iff_toInt_lt, Int32.le_iff_toInt_le, show (1 : Int32).toInt = 1 from rfl, show (0 : Int32).toInt = 0 from rfl]; omega)
theorem coolN {m g : Nat} (hm : m ≤ 90) (hg : g < 1000) : (if nI m ≤ nI g then nI 0 else nI m - nI g) = nI (m - g) ∧ (if nI 0 ≤ nI m - nI g then nI m - nI g else nI 0) = nI (m - g) := by
  by_cases q : m ≤ g
  · rw [if_pos (nI_le q (by omega)), show m - g = 0 by omega]
    refine ⟨rfl, ?_⟩
    by_cases e : m = g
    · subst e
      rw [pk_sub (Nat.le_refl m), show m - m = 0 by omega, ite_self]
    · rw [if_neg]
      rw [Int32.le_iff_toInt_le, pk_sub_toInt (by omega) (by omega), nI_toInt (by omega)]
      omega
  · rw [if_neg (nI_ge (by omega) (by omega)), pk_sub (by omega)]
    exact ⟨rfl, if_pos (nI_le (by omega) (by omega))⟩
theorem c_lose {hb N g : Nat} {μ : Mm} (hR : RF μ) (hh : HB hb) (h0 : μ.1 hb 0 = nI N) (hN : N ≤ 24) (hg : g < 1000) (hx : ∀ x, x < N → bnd (μ.1 (hb + 1) x) 0 90) :
    ∃ μ', f_X3_lose KF μ hb (nI g) = some μ' ∧ FrI (fun a => a = hb + 1) μ μ' ∧ ∀ x, x < N → ∀ m, m ≤ 90 → μ.1 (hb + 1) x = nI m → μ'.1 (hb + 1) x = nI (m - g) := by
  have hk := hh.k.1
  obtain ⟨v, e, q⟩ := lp0 (fun n d ν => f_X3_lose_l2 KF hb (nI g) n ν (nI d)) N (by unfold FU; omega)
    (fun d ν => FrI (fun a => a = hb + 1) μ ν ∧ (∀ x, x < d → ∀ m, m ≤ 90 → μ.1 (hb + 1) x = nI m → ν.1 (hb + 1) x = nI (m - g)) ∧ ∀ x, d ≤ x → ν.1 (hb + 1) x = μ.1 (hb + 1) x)
    (fun ν => FrI (fun a => a = hb + 1) μ ν ∧ ∀ x, x < N → ∀ m, m ≤ 90 → μ.1 (hb + 1) x = nI m → ν.1 (hb + 1) x = nI (m - g))
    (by
      rintro n d ν hd ⟨p1, p2, p3⟩
      have hRν := hR.fr p1
      obtain ⟨m, -, hm, em⟩ := hx d hd
      have e0 : ν.1 hb 0 = nI N := by rw [p1.2 hb (by intro h; have h : hb = hb + 1 := h; omega)]; exact h0
      have ed : ν.1 (hb + 1) d = nI m := by rw [p3 d (Nat.le_refl d)]; exact em
      refine Or.inr ⟨sI ν (hb + 1) d (nI (m - g)), ?_, p1.sI rfl, ?_, ?_⟩
      · simp (disch := omega) only [f_X3_lose_l2, e0, leN, if_neg (Nat.not_le.mpr hd), bd_s, l1_s, r_h2 hRν hh, hk, gd_n, ix_n, ed]
        obtain ⟨c1, -⟩ := coolN hm hg
        by_cases t : m ≤ g
        · rw [if_pos (nI_le t (by omega))] at c1
          rw [if_pos t, ← c1, nI_succ]
          rfl
        · rw [if_neg (nI_ge (by omega) (by omega))] at c1
          rw [if_neg t, c1, nI_succ]
      · intro x hx' m' hm' e'
        by_cases e1 : x = d
        · subst e1
          rw [sI_at]
          rw [em, eqN (by omega) (by omega)] at e'
          rw [e']
        · rw [sI_of e1]
          exact p2 x (by omega) m' hm' e'
      · intro x hx'
        rw [sI_of (by omega)]
        exact p3 x (by omega))
    (by
      rintro n ν ⟨p1, p2, p3⟩
      have e0 : ν.1 hb 0 = nI N := by rw [p1.2 hb (by intro h; have h : hb = hb + 1 := h; omega)]; exact h0
      refine ⟨ν, ?_, p1, p2⟩
      simp (disch := omega) only [f_X3_lose_l2, e0, leN, if_pos (Nat.le_refl N)]) μ ⟨FrI.rfl, fun x hx' => absurd hx' (by omega), fun _ _ => rfl⟩
  refine ⟨v, ?_, q⟩
  unfold f_X3_lose
  rw [show f_X3_lose_l2 KF hb (nI g) FU μ 0 = some v from e]
  rfl
/-- what printing a label wants to know -/
def PCc (l : Nat) (P : PP) (bk : Nat) (μ : Mm) : Prop := RF μ ∧ (μ.1 14 0 = nI (pg P) ∧ μ.1 14 1 = nI (psm P) ∧ μ.1 14 2 = nI (plm P) ∧ μ.1 14 3 = nI (pfd P) ∧ μ.1 14 4 = nI (ptl P)) ∧ (μ.1 (17 + 2 * l) 0 = nI (pw P) ∧ μ.1 (17 + 2 * l) 1 = nI bk ∧ ∀ r, r < 6 → μ.1 (18 + 2 * l) r = pR P r)
def PNc (l : Nat) (P : PP) (bk : Nat) : Prop := (l < 6 ∧ pdu P = 10 * bk) ∧ (1 ≤ bk ∧ bk ≤ 9) ∧ (1 ≤ pw P ∧ pw P ≤ 12) ∧ pg P ≤ 30 ∧ psm P ≤ 90 ∧ plm P ≤ 9999 ∧ (1 ≤ pfd P ∧ pfd P ≤ 100) ∧ ptl P ≤ 8
theorem PCc.fr {l : Nat} {P : PP} {bk hb : Nat} {μ μ' : Mm} (hh : HB hb) (h : PCc l P bk μ) (hc : FC hb μ μ') : PCc l P bk μ' := by
  obtain ⟨h1, h2, h3, h4, h5⟩ := h
  have e : ∀ a, 14 ≤ a → μ'.1 a = μ.1 a := fun a ha => hc.1.2 a (by rcases hh with rfl | rfl <;> omega)
  unfold PCc
  rw [e 14 (by omega), e (17 + 2 * l) (by omega), e (18 + 2 * l) (by omega)]
  exact ⟨h1.fr hc.1, h2, h3, h4, h5⟩
/-- a head's dots are those of a state -/
def HdS (hb N : Nat) (μ : Mm) (s : QQ) : Prop := μ.1 hb 0 = nI N ∧ (∀ x, x < N → μ.1 (hb + 1) x = nI (qh s x) ∧ μ.1 (hb + 2) x = nI (qy s x) ∧ μ.1 (hb + 3) x = qu s x) ∧ μ.1 hb 1 = qt s
theorem HdS.e {hb N : Nat} {μ : Mm} {s t : QQ} (h : HdS hb N μ s) (e : ∀ x, x < N → qh t x = qh s x ∧ qy t x = qy s x ∧ qu t x = qu s x) (et : qt t = qt s) : HdS hb N μ t := by
  obtain ⟨h1, h2, h3⟩ := h
  refine ⟨h1, fun x hx => ?_, h3.trans et.symm⟩
  obtain ⟨e1, e2, e3⟩ := e x hx
  rw [e1, e2, e3]
  exact h2 x hx
theorem c_fadeP {l bk hb N x : Nat} {P : PP} {μ : Mm} {s : QQ} (hN : PNc l P bk) (hh : HB hb) (h : PCc l P bk μ) (hs : HdS hb N μ s) (hx : x < N) (hN24 : N ≤ 24) (hy : qy s x ≤ 9999) :
    f_X3_fadeOf KF μ hb (nI x) 14 = some (nI (fdN P (qy s x))) := by
  obtain ⟨h1, ⟨-, -, e2, e3, -⟩, -⟩ := h
  obtain ⟨-, -, -, -, -, n1, ⟨n2, n3⟩, -⟩ := hN
  obtain ⟨-, q2, -⟩ := hs.2.1 x hx
  have hk3 := hh.k.2.1
  have fne : ¬ nI (pfd P) = nI 0 := nI_ne0 (n := pfd P) (by omega) (by omega)
  unfold f_X3_fadeOf fdN
  simp (disch := omega) only [r_h3 h1 hh, hk3, bd_s, l1_s, K14, gd_n, ix_n, L2, L3, L0, q2, e2, e3, lt1_le0, gd_t fne, L1, leN, if_pos n2]
  by_cases t : qy s x ≤ plm P
  · have tn : nI (qy s x) - nI (plm P) ≤ nI 0 := by
      rw [Int32.le_iff_toInt_le, pk_sub_toInt (by omega) (by omega), nI_toInt (by omega)]
      omega
    rw [if_pos tn, show qy s x - plm P = 0 by omega, Nat.zero_div]
  · rw [pk_sub (by omega), if_neg (nI_ge (by omega) (by omega)), pk_div (by omega) (by omega) (by omega)]
/-- a dot burns -/
def BR (P : PP) (d : Nat) (s : QQ) : QQ := (fun x => if x = d then (if qh s d < pdu P then pdu P else qh s d) else qh s x, fun x => if x = d then (if qy s d + unN P (qh s d) ≤ 9999 then qy s d + unN P (qh s d) else 9999) else qy s x, fun x => if x = d then qu s d + nI (unN P (qh s d)) else qu s x, qt s + nI (unN P (qh s d)), qb s)
theorem c_burnP {l bk hb N x : Nat} {P : PP} {μ : Mm} {s : QQ} (hN : PNc l P bk) (hh : HB hb) (h : PCc l P bk μ) (hs : HdS hb N μ s) (hx : x < N) (hN24 : N ≤ 24) (hb1 : qh s x ≤ 90) (hb2 : qy s x ≤ 9999) :
    ∃ μ', f_X3_burn KF μ hb (nI x) (nI (10 * bk)) = some μ' ∧ HdS hb N μ' (BR P x s) ∧ FC hb μ μ' := by
  obtain ⟨h1, -, -⟩ := h
  obtain ⟨⟨-, ed⟩, nb, -⟩ := hN
  obtain ⟨q1, q2, q3⟩ := hs.2.1 x hx
  have hh1 := hh.k.1
  have hh2 := hh.k.2.1
  have hh3 := hh.k.2.2
  have r2 : ∀ ν, RF ν → rf KF ν hb 2 8 = some (hb + 1) := fun ν hν => r_h2 hν hh
  unfold f_X3_burn
  by_cases t : qh s x < 10 * bk
  · obtain ⟨u, hu⟩ : ∃ u, u = unN P (qh s x) := ⟨_, rfl⟩
    have hu' : u = (10 * bk - qh s x + 9) / 10 := by rw [hu]; unfold unN; rw [ed]
    have eu : (nI (10 * bk) - nI (qh s x) + nI 9) / nI 10 = nI u := by
      rw [pk_sub (by omega), nI_add, pk_div (by omega) (by omega) (by omega), hu']
    obtain ⟨z, ez⟩ : ∃ z, z = if qy s x + u ≤ 9999 then qy s x + u else 9999 := ⟨_, rfl⟩
    refine ⟨sI (sI (sI (sI μ (hb + 3) x (qu s x + nI u)) hb 1 (qt s + nI u)) (hb + 2) x (nI z)) (hb + 1) x (nI (10 * bk)), ?_, ⟨?_, fun y hy => ?_, ?_⟩, ?_, ?_⟩
    · simp (disch := omega) only [r_h2 h1 hh, r_h3 h1 hh, r_h4 h1 hh, rf_sI, hh1, hh2, hh3, bd_s, l1_s, gd_n, ix_n, L1, L9, L10, q1, ltN, if_pos t, eu, sI_no, sI_at, sI_of, q2, q3, hs.2.2, nI_add, show (9999 : Int32) = nI 9999 by decide +kernel, leN]
      by_cases t2 : qy s x + u ≤ 9999
      · rw [if_pos t2] at ez ⊢
        rw [ez]
      · rw [if_neg t2] at ez ⊢
        rw [ez]
    · simp (disch := omega) only [sI_no, sI_of]
      exact hs.1
    · by_cases e : y = x
      · subst e
        simp (disch := omega) only [sI_no, sI_of, sI_at]
        refine ⟨?_, ?_, ?_⟩
        · show nI (10 * bk) = nI (if y = y then (if qh s y < pdu P then pdu P else qh s y) else qh s y)
          rw [if_pos rfl, ed, if_pos t]
        · show nI z = nI (if y = y then (if qy s y + unN P (qh s y) ≤ 9999 then qy s y + unN P (qh s y) else 9999) else qy s y)
          rw [if_pos rfl, ← hu, ez]
        · show qu s y + nI u = (if y = y then qu s y + nI (unN P (qh s y)) else qu s y)
          rw [if_pos rfl, ← hu]
      · simp (disch := omega) only [sI_no, sI_of]
        obtain ⟨z1, z2, z3⟩ := hs.2.1 y hy
        refine ⟨?_, ?_, ?_⟩
        · show _ = nI (if y = x then _ else qh s y)
          rw [if_neg e]; exact z1
        · show _ = nI (if y = x then _ else qy s y)
          rw [if_neg e]; exact z2
        · show _ = (if y = x then _ else qu s y)
          rw [if_neg e]; exact z3
    · simp (disch := omega) only [sI_no, sI_of, sI_at]
      show qt s + nI u = qt s + nI (unN P (qh s x))
      rw [← hu]
    · exact (((FrI.rfl.sI ⟨by omega, by omega⟩).sI ⟨by omega, by omega⟩).sI ⟨by omega, by omega⟩).sI ⟨by omega, by omega⟩
    · simp (disch := omega) only [sI_no, sI_of]
  · have u0 : unN P (qh s x) = 0 := by
      unfold unN
      rw [ed]
      omega
    refine ⟨μ, ?_, hs.e (fun y hy => ?_) ?_, FC.refl⟩
    · simp (disch := omega) only [r_h2 h1 hh, hh1, bd_s, gd_n, ix_n, q1, ltN, if_neg t]
    · by_cases e : y = x
      · subst e
        refine ⟨?_, ?_, ?_⟩
        · show (if y = y then (if qh s y < pdu P then pdu P else qh s y) else qh s y) = qh s y
          rw [if_pos rfl, ed, if_neg t]
        · show (if y = y then (if qy s y + unN P (qh s y) ≤ 9999 then qy s y + unN P (qh s y) else 9999) else qy s y) = qy s y
          rw [if_pos rfl, u0, if_pos (by omega), Nat.add_zero]
        · show (if y = y then qu s y + nI (unN P (qh s y)) else qu s y) = qu s y
          rw [if_pos rfl, u0]
          exact Int32.add_zero _
      · refine ⟨?_, ?_, ?_⟩
        · show (if y = x then _ else qh s y) = qh s y
          rw [if_neg e]
        · show (if y = x then _ else qy s y) = qy s y
          rw [if_neg e]
        · show (if y = x then _ else qu s y) = qu s y
          rw [if_neg e]
    · show qt s + nI (unN P (qh s x)) = qt s
      rw [u0]
      exact Int32.add_zero _
/-- behind c columns of a row -/
def RS (P : PP) (o r : Nat) (s : QQ) (c : Nat) : QQ := (fun x => if x < o + c then hotD P o r (qh s) x else qh s x, fun x => if x < o + c then weaD P o r (qh s) (qy s) x else qy s x, fun x => if x < o + c then qu s x + nI (unD P o r (qh s) x) else qu s x, qt s + nI (SN (fun i => unD P o r (qh s) (o + i)) c), qb s + SN (fun i => bdD P o r (qh s) (qy s) (o + i)) c)
theorem weaD_no {P : PP} {o r d : Nat} {h y : Nat → Nat} (q : ¬ (o ≤ d ∧ d < o + pw P)) (hy : y d ≤ 9999) : weaD P o r h y d = y d := by
  unfold weaD
  rw [unD_no q, Nat.add_zero, if_pos hy]
theorem RS_0 {P : PP} {o r N : Nat} {s : QQ} (hq : QB N s) {hb : Nat} {μ : Mm} (h : HdS hb N μ s) : HdS hb N μ (RS P o r s 0) := by
  refine h.e (fun x hx => ?_) ?_
  · by_cases e : x < o + 0
    · have no : ¬ (o ≤ x ∧ x < o + pw P) := by omega
      refine ⟨?_, ?_, ?_⟩
      · show (if x < o + 0 then hotD P o r (qh s) x else qh s x) = _
        rw [if_pos e, hotD_no no]
      · show (if x < o + 0 then weaD P o r (qh s) (qy s) x else qy s x) = _
        rw [if_pos e, weaD_no no (hq x hx).2]
      · show (if x < o + 0 then qu s x + nI (unD P o r (qh s) x) else qu s x) = _
        rw [if_pos e, unD_no no]
        exact Int32.add_zero _
    · exact ⟨if_neg e, if_neg e, if_neg e⟩
  · exact Int32.add_zero _
theorem RS_w {P : PP} {o r N : Nat} {s : QQ} (hq : QB N s) {hb : Nat} {μ : Mm} (h : HdS hb N μ (RS P o r s (pw P))) : HdS hb N μ (fun d => hotD P o r (qh s) d, fun d => weaD P o r (qh s) (qy s) d, fun d => qu s d + nI (unD P o r (qh s) d), qt s + nI (SN (fun c => unD P o r (qh s) (o + c)) (pw P)), qb s + SN (fun c => bdD P o r (qh s) (qy s) (o + c)) (pw P)) := by
  refine h.e (fun x hx => ?_) rfl
  by_cases e : x < o + pw P
  · exact ⟨(if_pos e).symm, (if_pos e).symm, (if_pos e).symm⟩
  · have no : ¬ (o ≤ x ∧ x < o + pw P) := by omega
    refine ⟨?_, ?_, ?_⟩
    · show hotD P o r (qh s) x = (if x < o + pw P then hotD P o r (qh s) x else qh s x)
      rw [if_neg e, hotD_no no]
    · show weaD P o r (qh s) (qy s) x = (if x < o + pw P then weaD P o r (qh s) (qy s) x else qy s x)
      rw [if_neg e, weaD_no no (hq x hx).2]
    · show qu s x + nI (unD P o r (qh s) x) = (if x < o + pw P then qu s x + nI (unD P o r (qh s) x) else qu s x)
      rw [if_neg e, unD_no no]
      exact Int32.add_zero _
theorem c_rowP {l bk hb N o r : Nat} {P : PP} {μ : Mm} {s : QQ} (hN : PNc l P bk) (hh : HB hb) (h : PCc l P bk μ) (hs : HdS hb N μ s) (hq : QB N s) (how : o + pw P ≤ N) (hN24 : N ≤ 24) (hr : r < 6) :
    ∃ a : Int32 × Mm, f_X3_printRows_l16 KF hb (17 + 2 * l) (nI o) 14 (nI r) FU μ (nI (qb s)) 0 = some a ∧ a.1 = nI (qb (RS P o r s (pw P))) ∧ HdS hb N a.2 (RS P o r s (pw P)) ∧ FC hb μ a.2 := by
  have hl := hN.1.1
  have hdu := hN.1.2
  have hbk := hN.2.1
  have hw := hN.2.2.1
  have hsm := hN.2.2.2.2.1
  have htl := hN.2.2.2.2.2.2.2
  obtain ⟨a, e, q1, q2, q3⟩ := lp (fun n c (t : Mm × Int32) => f_X3_printRows_l16 KF hb (17 + 2 * l) (nI o) 14 (nI r) n t.1 t.2 (nI c)) (pw P)
    (fun c t => HdS hb N t.1 (RS P o r s c) ∧ FC hb μ t.1 ∧ t.2 = nI (qb (RS P o r s c)))
    (fun a => a.1 = nI (qb (RS P o r s (pw P))) ∧ HdS hb N a.2 (RS P o r s (pw P)) ∧ FC hb μ a.2)
    (by
      rintro n c ⟨μ', v'⟩ hc ⟨p1, p2, p3⟩
      have p3 : v' = nI (qb (RS P o r s c)) := p3
      subst p3
      have p1 : HdS hb N μ' (RS P o r s c) := p1
      have p2 : FC hb μ μ' := p2
      refine Or.inr ?_
      have h' : PCc l P bk μ' := h.fr hh p2
      have oc : o + c < N := by omega
      have yh : qh (RS P o r s c) (o + c) = qh s (o + c) := if_neg (by omega)
      have yy : qy (RS P o r s c) (o + c) = qy s (o + c) := if_neg (by omega)
      have yu : qu (RS P o r s c) (o + c) = qu s (o + c) := if_neg (by omega)
      have b1 := (hq (o + c) oc).1
      have b2 := (hq (o + c) oc).2
      have ef := c_fadeP hN hh h' p1 oc hN24 (by rw [yy]; exact b2)
      obtain ⟨μb, eb, sb, fb⟩ := c_burnP hN hh h' p1 oc hN24 (by rw [yh]; exact b1) (by rw [yy]; exact b2)
      rw [yy] at ef
      have q1 : μ'.1 (hb + 1) (o + c) = nI (qh s (o + c)) := by rw [(p1.2.1 (o + c) oc).1, yh]
      have hk1 := hh.k.1
      obtain ⟨h1, ⟨-, g1, -, -, g4⟩, h4, h4', h4''⟩ := h'
      have inn : o ≤ o + c ∧ o + c < o + pw P := by omega
      have eac : acB P o r (o + c) = blB P r c := by rw [acB_in inn, Nat.add_sub_cancel_left]
      have ebd : bdD P o r (qh s) (qy s) (o + c) = bdN P (blB P r c) (qh s (o + c)) (qy s (o + c)) := by
        unfold bdD
        rw [if_pos inn, Nat.add_sub_cancel_left]
      have esn : qb (RS P o r s (c + 1)) = qb (RS P o r s c) + bdN P (blB P r c) (qh s (o + c)) (qy s (o + c)) := by
        show qb s + (SN (fun i => bdD P o r (qh s) (qy s) (o + i)) c + bdD P o r (qh s) (qy s) (o + c)) = _
        rw [ebd, ← Nat.add_assoc]
        rfl
      have etn : qt (RS P o r s (c + 1)) = qt (RS P o r s c) + nI (unD P o r (qh s) (o + c)) := by
        show qt s + nI (SN (fun i => unD P o r (qh s) (o + i)) c + unD P o r (qh s) (o + c)) = qt s + nI (SN (fun i => unD P o r (qh s) (o + i)) c) + nI (unD P o r (qh s) (o + c))
        rw [← nI_add, Int32.add_assoc]
      have ff : fdN P (qy s (o + c)) ≤ 9999 := by
        unfold fdN
        exact Nat.le_trans (Nat.div_le_self _ _) (by omega)
      simp (disch := omega) only [f_X3_printRows_l16, h4, leN, if_neg (Nat.not_le.mpr hc), nI_add, bd_s, l1_s, r_row h1 hl, K_row l hl, gd_n, ix_n, h4'' r hr, h4', L10, pk_mul]
      by_cases t : bitI (pR P r) c = 1
      · have t' : (pR P r >>> (nI c &&& 31)) &&& 1 = 1 := t
        have st : HdS hb N μb (RS P o r s (c + 1)) := by
          refine sb.e (fun x hx => ?_) ?_
          · by_cases e : x = o + c
            · subst e
              refine ⟨?_, ?_, ?_⟩
              · show (if o + c < o + (c + 1) then hotD P o r (qh s) (o + c) else qh s (o + c)) = (if o + c = o + c then (if qh (RS P o r s c) (o + c) < pdu P then pdu P else qh (RS P o r s c) (o + c)) else _)
                rw [if_pos (by omega), if_pos rfl, yh]
                unfold hotD
                rw [eac, blB_t t]
                rfl
              · show (if o + c < o + (c + 1) then weaD P o r (qh s) (qy s) (o + c) else qy s (o + c)) = (if o + c = o + c then (if qy (RS P o r s c) (o + c) + unN P (qh (RS P o r s c) (o + c)) ≤ 9999 then qy (RS P o r s c) (o + c) + unN P (qh (RS P o r s c) (o + c)) else 9999) else _)
                rw [if_pos (by omega), if_pos rfl, yh, yy]
                unfold weaD unD
                rw [eac, blB_t t]
                rfl
              · show (if o + c < o + (c + 1) then qu s (o + c) + nI (unD P o r (qh s) (o + c)) else qu s (o + c)) = (if o + c = o + c then qu (RS P o r s c) (o + c) + nI (unN P (qh (RS P o r s c) (o + c))) else _)
                rw [if_pos (by omega), if_pos rfl, yh, yu]
                unfold unD
                rw [eac, blB_t t]
                rfl
            · refine ⟨?_, ?_, ?_⟩
              · show (if x < o + (c + 1) then hotD P o r (qh s) x else qh s x) = (if x = o + c then _ else (if x < o + c then hotD P o r (qh s) x else qh s x))
                rw [if_neg e]
                by_cases e2 : x < o + c
                · rw [if_pos e2, if_pos (by omega)]
                · rw [if_neg e2, if_neg (by omega)]
              · show (if x < o + (c + 1) then weaD P o r (qh s) (qy s) x else qy s x) = (if x = o + c then _ else (if x < o + c then weaD P o r (qh s) (qy s) x else qy s x))
                rw [if_neg e]
                by_cases e2 : x < o + c
                · rw [if_pos e2, if_pos (by omega)]
                · rw [if_neg e2, if_neg (by omega)]
              · show (if x < o + (c + 1) then qu s x + nI (unD P o r (qh s) x) else qu s x) = (if x = o + c then _ else (if x < o + c then qu s x + nI (unD P o r (qh s) x) else qu s x))
                rw [if_neg e]
                by_cases e2 : x < o + c
                · rw [if_pos e2, if_pos (by omega)]
                · rw [if_neg e2, if_neg (by omega)]
          · rw [etn]
            show _ = qt (RS P o r s c) + nI (unN P (qh (RS P o r s c) (o + c)))
            rw [yh]
            unfold unD
            rw [eac, blB_t t]
            rfl
        rw [if_pos t', if_neg (show ¬ (1 : Int32) = 0 by decide), ef, bd_s]
        simp (disch := omega) only [K14, gd_n, ix_n, L4, g4, leN, eb, bd_s, l1_s]
        have ebn : bdN P (blB P r c) (qh s (o + c)) (qy s (o + c)) = if ptl P < fdN P (qy s (o + c)) then 1 else 0 := by rw [blB_t t]; rfl
        by_cases t2 : fdN P (qy s (o + c)) ≤ ptl P
        · rw [if_pos t2]
          refine ⟨(μb, nI (qb (RS P o r s c))), ?_, st, p2.trans fb, ?_⟩
          · rw [nI_succ]
          · show _ = nI (qb (RS P o r s (c + 1)))
            rw [esn, ebn, if_neg (by omega), Nat.add_zero]
        · rw [if_neg t2]
          refine ⟨(μb, nI (qb (RS P o r s c)) + 1), ?_, st, p2.trans fb, ?_⟩
          · rw [nI_succ]
          · show _ = nI (qb (RS P o r s (c + 1)))
            rw [esn, ebn, if_pos (by omega), nI_1]
      · have t' : ¬ (pR P r >>> (nI c &&& 31)) &&& 1 = 1 := t
        have u0 : unD P o r (qh s) (o + c) = 0 := by
          unfold unD
          rw [eac, blB_f t]
          rfl
        have st : HdS hb N μ' (RS P o r s (c + 1)) := by
          refine p1.e (fun x hx => ?_) ?_
          · by_cases e : x = o + c
            · subst e
              rw [yh, yy, yu]
              refine ⟨?_, ?_, ?_⟩
              · show (if o + c < o + (c + 1) then hotD P o r (qh s) (o + c) else qh s (o + c)) = _
                rw [if_pos (by omega)]
                unfold hotD
                rw [eac, blB_f t]
                rfl
              · show (if o + c < o + (c + 1) then weaD P o r (qh s) (qy s) (o + c) else qy s (o + c)) = _
                rw [if_pos (by omega)]
                unfold weaD
                rw [u0, Nat.add_zero, if_pos b2]
              · show (if o + c < o + (c + 1) then qu s (o + c) + nI (unD P o r (qh s) (o + c)) else qu s (o + c)) = _
                rw [if_pos (by omega), u0]
                exact Int32.add_zero _
            · refine ⟨?_, ?_, ?_⟩
              · show (if x < o + (c + 1) then hotD P o r (qh s) x else qh s x) = (if x < o + c then hotD P o r (qh s) x else qh s x)
                by_cases e2 : x < o + c
                · rw [if_pos e2, if_pos (by omega)]
                · rw [if_neg e2, if_neg (by omega)]
              · show (if x < o + (c + 1) then weaD P o r (qh s) (qy s) x else qy s x) = (if x < o + c then weaD P o r (qh s) (qy s) x else qy s x)
                by_cases e2 : x < o + c
                · rw [if_pos e2, if_pos (by omega)]
                · rw [if_neg e2, if_neg (by omega)]
              · show (if x < o + (c + 1) then qu s x + nI (unD P o r (qh s) x) else qu s x) = (if x < o + c then qu s x + nI (unD P o r (qh s) x) else qu s x)
                by_cases e2 : x < o + c
                · rw [if_pos e2, if_pos (by omega)]
                · rw [if_neg e2, if_neg (by omega)]
          · rw [etn, u0]
            exact Int32.add_zero _
        have ebn : bdN P (blB P r c) (qh s (o + c)) (qy s (o + c)) = if psm P < qh s (o + c) then 1 else 0 := by rw [blB_f t]; rfl
        rw [if_neg t', if_pos rfl]
        simp (disch := omega) only [r_h2 h1 hh, hk1, bd_s, l1_s, K14, gd_n, ix_n, L1, q1, g1, leN]
        by_cases t2 : qh s (o + c) ≤ psm P
        · rw [if_pos t2]
          refine ⟨(μ', nI (qb (RS P o r s c))), ?_, st, p2, ?_⟩
          · rw [nI_add]
          · show _ = nI (qb (RS P o r s (c + 1)))
            rw [esn, ebn, if_neg (by omega), Nat.add_zero]
        · rw [if_neg t2]
          refine ⟨(μ', nI (qb (RS P o r s c)) + nI 1), ?_, st, p2, ?_⟩
          · simp only [nI_add]
          · show _ = nI (qb (RS P o r s (c + 1)))
            rw [esn, ebn, if_pos (by omega), nI_add])
    (by
      rintro n ⟨μ', v'⟩ ⟨p1, p2, p3⟩
      have h' : PCc l P bk μ' := h.fr hh p2
      refine ⟨(v', μ'), ?_, p3, p1, p2⟩
      have h4 : μ'.1 (17 + 2 * l) 0 = nI (pw P) := h'.2.2.1
      simp (disch := omega) only [f_X3_printRows_l16, h4, leN, if_pos (Nat.le_refl (pw P))]) (pw P) 0 (μ, nI (qb s)) FU (by omega) (by unfold FU; omega) ⟨RS_0 hq hs, FC.refl, rfl⟩
  exact ⟨a, e, q1, q2, q3⟩
/-- a whole label -/
theorem c_playP {l bk hb N o : Nat} {P : PP} {μ : Mm} {s : QQ} (hN : PNc l P bk) (hh : HB hb) (h : PCc l P bk μ) (hs : HdS hb N μ s) (hq : QB N s) (how : o + pw P ≤ N) (hN24 : N ≤ 24) (hb0 : qb s = 0) :
    ∃ μ', f_X3_printRows KF μ hb (17 + 2 * l) (nI o) 14 = some (nI (qb (PL P o 6 s)), μ') ∧ HdS hb N μ' (PL P o 6 s) ∧ FC hb μ μ' := by
  have hg := hN.2.2.2.1
  have hdu : pdu P ≤ 90 := by have := hN.1.2; have := hN.2.1; omega
  obtain ⟨a, e, q1, q2, q3⟩ := lp (fun n r (t : Mm × Int32) => f_X3_printRows_l6 KF hb (17 + 2 * l) (nI o) 14 n t.1 t.2 (nI r)) 6
    (fun r t => HdS hb N t.1 (PL P o r s) ∧ FC hb μ t.1 ∧ t.2 = nI (qb (PL P o r s)))
    (fun a => a.1 = nI (qb (PL P o 6 s)) ∧ HdS hb N a.2 (PL P o 6 s) ∧ FC hb μ a.2)
    (by
      rintro n r ⟨μ', v'⟩ hr ⟨p1, p2, p3⟩
      have p3 : v' = nI (qb (PL P o r s)) := p3
      subst p3
      have p1 : HdS hb N μ' (PL P o r s) := p1
      have p2 : FC hb μ μ' := p2
      refine Or.inr ?_
      have h' : PCc l P bk μ' := h.fr hh p2
      have hqr := PL_b hdu hq (o := o) r
      obtain ⟨⟨v1, μ1⟩, e1, x1, x2, x3⟩ := c_rowP hN hh h' p1 hqr how hN24 hr
      have x1 : v1 = nI (qb (RS P o r (PL P o r s) (pw P))) := x1
      have x3 : FC hb μ' μ1 := x3
      have x2 := RS_w hqr (show HdS hb N μ1 _ from x2)
      have h1 : PCc l P bk μ1 := h'.fr hh x3
      have hlose := c_lose (μ := μ1) (g := pg P) h1.1 hh x2.1 hN24 (by omega) (fun x hx => by
        rw [(x2.2.1 x hx).1]
        refine ⟨_, Nat.zero_le _, ?_, rfl⟩
        show hotD P o r (qh (PL P o r s)) x ≤ 90
        unfold hotD
        have := (hqr x hx).1
        split
        · split <;> omega
        · omega)
      obtain ⟨μ2, y1, y2, y3⟩ := hlose
      have yn : ∀ a, a ≠ hb + 1 → μ2.1 a = μ1.1 a := fun a ha => y2.2 a ha
      refine ⟨(μ2, v1), ?_, ?_, (p2.trans x3).trans ⟨y2.mono (fun a ha => by have ha : a = hb + 1 := ha; exact ⟨by omega, by omega⟩), by rw [yn hb (by omega)]⟩, x1⟩
      · have e1' : f_X3_printRows_l16 KF hb (17 + 2 * l) (nI o) 14 (nI r) FU μ' (nI (qb (PL P o r s))) (nI 0) = some (v1, μ1) := e1
        have g0 : μ1.1 14 0 = nI (pg P) := h1.2.1.1
        simp (disch := omega) only [f_X3_printRows_l6, L6, L0, leN, if_neg (Nat.not_le.mpr hr), e1', bd_s, l1_s, K14, gd_n, ix_n, g0, y1, nI_succ r]
      · refine ⟨by rw [yn hb (by omega)]; exact x2.1, fun x hx => ?_, by rw [yn hb (by omega)]; exact x2.2.2⟩
        rw [yn (hb + 2) (by omega), yn (hb + 3) (by omega)]
        refine ⟨y3 x hx _ ?_ (x2.2.1 x hx).1, (x2.2.1 x hx).2⟩
        show hotD P o r (qh (PL P o r s)) x ≤ 90
        unfold hotD
        have := (hqr x hx).1
        split
        · split <;> omega
        · omega)
    (by
      rintro n ⟨μ', v'⟩ ⟨p1, p2, p3⟩
      refine ⟨(v', μ'), ?_, p3, p1, p2⟩
      simp (disch := omega) only [f_X3_printRows_l6, L6, leN, if_pos (Nat.le_refl 6)]) 6 0 (μ, nI (qb s)) FU (by omega) (by unfold FU; omega) ⟨hs, FC.refl, rfl⟩
  obtain ⟨v, μ'⟩ := a
  have q1 : v = nI (qb (PL P o 6 s)) := q1
  subst q1
  refine ⟨μ', ?_, q2, q3⟩
  unfold f_X3_printRows
  have e : f_X3_printRows_l6 KF hb (17 + 2 * l) (nI o) 14 FU μ (nI (qb s)) 0 = some (nI (qb (PL P o 6 s)), μ') := e
  rw [hb0] at e
  rw [show f_X3_printRows_l6 KF hb (17 + 2 * l) (nI o) 14 FU μ 0 0 = some (nI (qb (PL P o 6 s)), μ') from e]
  rfl
end PurePlay
