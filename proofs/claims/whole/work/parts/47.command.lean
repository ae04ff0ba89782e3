/-! PURE: a command is read by both; the fault of a text -/
section PureP6
theorem rfW_s {μ : Mm} {i : Nat} (hi : i < 10) (h : μ.2.1 1 4 = some (2000 + i)) : rfW μ 1 4 = some i := by
  unfold rfW
  rw [h]
  show (if 2000 ≤ 2000 + i ∧ 2000 + i < 2010 then some (2000 + i - 2000) else none) = some i
  rw [if_pos ⟨by omega, by omega⟩, show 2000 + i - 2000 = i by omega]
theorem PF.sw {μ μ' : Mm} (h : PF μ μ') {v : Option Nat} : PF μ (sR μ' 1 4 v) := ⟨h.1, h.2.1, fun k j hk => by
    show up2 μ'.2.1 1 4 v k j = _
    rw [← h.2.2.1 k j hk]
    unfold up2
    by_cases e : k = 1
    · rw [if_pos e, if_neg (by omega), e]
    · rw [if_neg e], h.2.2.2⟩
def cW (w : Option Nat) (μ2 : Mm) (v : Int32) : Option (Int32 × Mm) := match w with | none => some (0, sI μ2 1 3 v) | some i => gd (i < 10) (lt1 (sR μ2 1 4 (some (2000 + i))) fun μ11 => bd (rfW μ11 1 4) fun b12 => bd (f_X1_readNumbers KF μ11 1 (wN b12)) cFin)
theorem b_read {m p' p : Nat} {T : Nat → Int32} {μ η : Mm} (h : HC m T μ) (h' : HM m T η) (hp : μ.1 1 2 = nI p') (hq : η.1 139 8 = nI p) (s : SE T m 32 32 p' p) :
    (p = m ∧ ∃ μ', f_X1_readCommand KF μ 1 = some (0, μ') ∧ PF μ μ' ∧ μ'.1 1 3 = μ.1 1 3) ∨
    (p < m ∧ ∃ x μ' η', f_X1_readCommand KF μ 1 = some (x, μ') ∧ f_X8_reads KF η 139 = some (x, η') ∧ PF μ μ' ∧ QF η η' ∧
      ((x = 0 ∧ ∃ r, r ≤ m ∧ μ'.1 1 3 = nI r ∧ η'.1 139 8 = nI r) ∨
       (x = 1 ∧ μ'.1 1 3 = μ.1 1 3 ∧ ∃ r q i, p' < r ∧ μ'.1 1 2 = nI r ∧ η'.1 139 8 = nI q ∧ SE T m 32 32 r q ∧ i < 10 ∧ μ'.2.1 1 4 = some (2000 + i) ∧ η'.1 139 9 = nI i ∧ ∀ y, y < cnt i → μ'.1 3 y = η'.1 144 y))) := by
  have h150 := h.2.2.1
  have hpm := s.1
  obtain ⟨p2, μ1, e1, f1, g1, s1⟩ := c_spaces h hp (by omega)
  have ep := s1.one s
  subst ep
  have h1 := h.pf f1
  by_cases c : p2 < m
  · refine Or.inr ⟨c, ?_⟩
    obtain ⟨e, μ2, e2, f2, g2, s2⟩ := c_letters h1 g1.1 hpm.2
    obtain ⟨e', η2, e2', f2', g2', s2'⟩ := m_letters h' hq hpm.2 (nI p2)
    have ee := s2.one s2'
    subst ee
    have h2 := h1.pf f2
    have h2' := h'.qf f2'
    have hem := s2.1
    obtain ⟨k, rfl⟩ : ∃ k, e = p2 + k := ⟨e - p2, by omega⟩
    obtain ⟨w, e3, hw⟩ := c_word h2 (s := p2) (k := k) hem.2
    obtain ⟨v, e4, e5⟩ := m_cmd h2' hem.2 (fun j hj => s2.2.1 (p2 + j) (by omega) (by omega)) hw
    have f12 := f1.trans f2
    have eC : f_X1_readCommand KF μ 1 = cW w μ2 (nI p2) := by
      unfold f_X1_readCommand
      rw [e1, bd_s, g1.1, h1.2.1, if_pos (by rw [ltN (by omega) (by omega)]; exact c), l1_s, e2, bd_s, g2.1, e3, bd_s]
      cases w <;> rfl
    have eR : f_X8_reads KF η 139 = if cmdI w = -1 then some (0, sI (sI η2 139 9 (cmdI w)) 139 8 (nI p2)) else rt FU (sI η2 139 9 (cmdI w)) 0 := by
      unfold f_X8_reads
      rw [l1_s, hq, e2', bd_s, l1_s, g2'.1, e4, bd_s, e5, bd_s, l1_s, sI_at]
      by_cases c : cmdI w = -1
      · rw [if_pos c, if_pos c, l1_s]
      · rw [if_neg c, if_neg c]
        rfl
    rcases hw with ⟨rfl, -⟩ | ⟨i, hi, rfl, -⟩
    · refine ⟨0, sI μ2 1 3 (nI p2), sI (sI η2 139 9 (-1)) 139 8 (nI p2), eC, ?_, f12.s1 (Or.inr rfl), (f2'.s8 (Or.inr rfl)).s8 (Or.inl rfl), Or.inl ⟨rfl, p2, hpm.2, sI_at, sI_at⟩⟩
      rw [eR, if_pos (show cmdI none = -1 from rfl)]
      rfl
    · obtain ⟨w1, w2, w3⟩ := w_cnt i hi
      let μ3 := sR μ2 1 4 (some (2000 + i))
      have h3 : HC m T μ3 := h2.pf PF.rf.sw
      have h3' : HM m T (sI η2 139 9 (nI i)) := h2'.qf (QF.rf.s8 (Or.inr rfl))
      have er : μ3.2.1 1 4 = some (2000 + i) := sR_at
      have eC2 : f_X1_readCommand KF μ 1 = ct (cnt i) FU μ3 0 := by
        rw [eC]
        show gd (i < 10) (lt1 (sR μ2 1 4 (some (2000 + i))) fun μ11 => bd (rfW μ11 1 4) fun b12 => bd (f_X1_readNumbers KF μ11 1 (wN b12)) cFin) = _
        rw [gd_t hi, l1_s, show rfW (sR μ2 1 4 (some (2000 + i))) 1 4 = some i from rfW_s hi er, bd_s, w1]
        rfl
      have hne : ¬ cmdI (some i) = -1 := m1_ne (by omega)
      obtain ⟨x, μ', η', x1, x2, x3, x4, x5, x6, x7⟩ := b_tail w3 w2 (cnt i) 0 (by omega) FU FU μ3 (sI η2 139 9 (nI i)) (p2 + k) (by unfold FU; omega) (by unfold FU; omega) h3 h3' g2.1 ((sI_of (by omega)).trans g2'.1) hem.2 sI_at (fun x hx => absurd hx (by omega))
      refine ⟨x, μ', η', by rw [eC2]; exact x1, by rw [eR, if_neg hne]; exact x2, (f12.sw).trans x3, (f2'.s8 (Or.inr rfl)).trans x4, ?_⟩
      rcases x7 with ⟨z1, z2⟩ | ⟨z1, z2, r, q, z3, z4, z5, z6, z7⟩
      · exact Or.inl ⟨z1, z2⟩
      · exact Or.inr ⟨z1, z2.trans (g2.2.1.trans g1.2.1), r, q, i, by omega, z4, z5, z6, hi, by rw [x5]; exact er, x6, z7⟩
  · refine Or.inl ⟨by omega, μ1, ?_, f1, g1.2.1⟩
    unfold f_X1_readCommand
    rw [e1, bd_s, g1.1, h1.2.1, if_neg (by rw [ltN (by omega) (by omega)]; exact c)]
theorem b_faultL {m : Nat} {T : Nat → Int32} : ∀ k d, k + d = 150 → ∀ n n' μ η p' p, k + 2 < n → k + 2 < n' → HC m T μ → HM m T η → μ.1 1 2 = nI p' → η.1 139 8 = nI p → SE T m 32 32 p' p → d ≤ p' → μ.1 1 3 = -1 →
    ∃ μ' x η', f_X1_findFault_l8 KF 1 n μ 1 (nI d) = some μ' ∧ f_X8_fault_l11 KF 139 n' η 1 = some (x, η') ∧ PF μ μ' ∧ QF η η' ∧ ((x = 1 ∧ μ'.1 1 3 = -1) ∨ (x = 0 ∧ ∃ r, r ≤ m ∧ μ'.1 1 3 = nI r ∧ η'.1 139 8 = nI r)) := by
  intro k
  induction k with
  | zero =>
    intro d hd n n' μ η p' p hn hn' h h' hp hq s hdp hf
    obtain ⟨n, rfl⟩ : ∃ k, n = k + 1 := ⟨n - 1, by omega⟩
    obtain ⟨n', rfl⟩ : ∃ k, n' = k + 1 := ⟨n' - 1, by omega⟩
    have h150 := h.2.2.1
    have hpm := s.1
    refine ⟨μ, 1, η, ?_, ?_, PF.rf, QF.rf, Or.inl ⟨rfl, hf⟩⟩
    · have e : d = 150 := by omega
      subst e
      rfl
    · have q : m ≤ p := by omega
      simp (disch := omega) only [f_X8_fault_l11, h'.2.1, hq, leN, if_pos q, i10]
  | succ k ih =>
    intro d hd n n' μ η p' p hn hn' h h' hp hq s hdp hf
    obtain ⟨n, rfl⟩ : ∃ k, n = k + 1 := ⟨n - 1, by omega⟩
    obtain ⟨n', rfl⟩ : ∃ k, n' = k + 1 := ⟨n' - 1, by omega⟩
    have h150 := h.2.2.1
    have hpm := s.1
    have nd : ¬ (150 : Int32) ≤ nI d := by
      rw [show (150 : Int32) = nI 150 from rfl, leN (by omega) (by omega)]
      omega
    have eC : f_X1_findFault_l8 KF 1 (n + 1) μ 1 (nI d) = bd (f_X1_readCommand KF μ 1) fun q5 => f_X1_findFault_l8 KF 1 n q5.2 q5.1 (nI (d + 1)) := by
      simp only [f_X1_findFault_l8, if_neg nd, i10, l1_s, nI_1]
    have stop : ∀ ν, f_X1_findFault_l8 KF 1 n ν 0 (nI (d + 1)) = some ν := fun ν => by
      obtain ⟨n, rfl⟩ : ∃ k, n = k + 1 := ⟨n - 1, by omega⟩
      by_cases c : (150 : Int32) ≤ nI (d + 1)
      · simp only [f_X1_findFault_l8, if_pos c]
      · simp only [f_X1_findFault_l8, if_neg c, if_true]
    rcases b_read h h' hp hq s with ⟨pm, μ', e1, f1, g1⟩ | ⟨pm, x, μ', η', e1, e2, f1, f2, cx⟩
    · refine ⟨μ', 1, η, by rw [eC, e1, bd_s]; exact stop μ', ?_, f1, QF.rf, Or.inl ⟨rfl, g1.trans hf⟩⟩
      have q : m ≤ p := by omega
      simp (disch := omega) only [f_X8_fault_l11, h'.2.1, hq, leN, if_pos q, i10]
    · have q : ¬ m ≤ p := by omega
      have eR : f_X8_fault_l11 KF 139 (n' + 1) η 1 = f_X8_fault_l11 KF 139 n' η' x := by
        simp (disch := omega) only [f_X8_fault_l11, h'.2.1, hq, leN, if_neg q, i10, e2, bd_s, l1_s]
      rcases cx with ⟨rfl, r, r1, r2, r3⟩ | ⟨rfl, g1, r, q, i, r1, r2, r3, r4, -⟩
      · refine ⟨μ', 0, η', by rw [eC, e1, bd_s]; exact stop μ', ?_, f1, f2, Or.inr ⟨rfl, r, r1, r2, r3⟩⟩
        rw [eR]
        obtain ⟨n', rfl⟩ : ∃ k, n' = k + 1 := ⟨n' - 1, by omega⟩
        simp only [f_X8_fault_l11, if_true]
      · obtain ⟨μ2, y, η2, y1, y2, y3, y4, y5⟩ := ih (d + 1) (by omega) n n' μ' η' r q (by omega) (by omega) (h.pf f1) (h'.qf f2) r2 r3 r4 (by omega) (g1.trans hf)
        exact ⟨μ2, y, η2, by rw [eC, e1, bd_s]; exact y1, by rw [eR]; exact y2, f1.trans y3, f2.trans y4, y5⟩
theorem b_fault {m : Nat} {T : Nat → Int32} {μ η : Mm} (h : HC m T μ) (h' : HM m T η) : ∃ v μ' η', f_X1_findFault KF μ 1 = some (v, μ') ∧ f_X8_fault KF η 139 = some (v, η') ∧ PF μ μ' ∧ QF η η' ∧ (v = -1 ∨ ∃ r, r ≤ 150 ∧ v = nI r) := by
  have h150 := h.2.2.1
  let μ1 := sI (sI μ 1 2 0) 1 3 (-1)
  have f1 : PF μ μ1 := (PF.rf.s1 (Or.inl rfl)).s1 (Or.inr rfl)
  have h1 := h.pf f1
  let η1 := sI η 139 8 0
  have f1' : QF η η1 := QF.rf.s8 (Or.inl rfl)
  obtain ⟨p, η2, e2, f2, g2, s2⟩ := m_skips (h'.qf f1') (p := 0) (show η1.1 139 8 = nI 0 from sI_at) (by omega)
  obtain ⟨μ3, x, η3, e3, e3', f3, f3', cx⟩ := b_faultL 150 0 (by omega) FU FU μ1 η2 0 p (by unfold FU; omega) (by unfold FU; omega) h1 ((h'.qf f1').qf f2) (show μ1.1 1 2 = nI 0 from (sI_of (by omega)).trans sI_at) g2.1 s2 (by omega) sI_at
  have eC : f_X1_findFault KF μ 1 = some (μ3.1 1 3, μ3) := by
    unfold f_X1_findFault
    rw [show f_X1_rewind KF μ 1 = some μ1 from rfl, bd_s, show f_X1_findFault_l8 KF 1 FU μ1 1 0 = some μ3 from e3, bd_s, l1_s]
  have eR : f_X8_fault KF η 139 = if x = 0 then some (η3.1 139 8, η3) else some (-1, η3) := by
    unfold f_X8_fault
    rw [l1_s, show f_X8_skips KF (sI η 139 8 0) 139 = some η2 from e2, bd_s, e3', bd_s, l1_s, l1_s]
  rcases cx with ⟨rfl, c⟩ | ⟨rfl, r, r1, r2, r3⟩
  · exact ⟨-1, μ3, η3, by rw [eC, c], by rw [eR, if_neg (by decide)], f1.trans f3, (f1'.trans f2).trans f3', Or.inl rfl⟩
  · exact ⟨nI r, μ3, η3, by rw [eC, r2], by rw [eR, if_pos rfl, r3], f1.trans f3, (f1'.trans f2).trans f3', Or.inr ⟨r, by omega, rfl⟩⟩
end PureP6
