/-! PURE: reading a command -/
section PureP5
def cnt (i : Nat) : Nat := ix (wN i)
theorem w_cnt : ∀ i, i < 10 → wN i = nI (cnt i) ∧ f_X8_numbersOf (nI i) = some (nI (cnt i)) ∧ cnt i ≤ 3 := by decide +kernel
def cFin (q13 : Int32 × Mm) : Option (Int32 × Mm) := lt1 q13.1 fun x15 => lt1 q13.2 fun μ14 => if x15 = 0 then (lt1 (sI μ14 1 3 (μ14.1 1 2)) fun μ17 => some (0, μ17)) else (bd (f_X1_readSemicolon KF μ14 1) fun q18 => lt1 q18.1 fun x20 => lt1 q18.2 fun μ19 => if x20 = 0 then (lt1 (sI μ19 1 3 (μ19.1 1 2)) fun μ22 => some (0, μ22)) else (some (1, μ19)))
def cMid (q8 : (Int32 × Mm) ⊕ Mm) : Option (Int32 × Mm) := match q8 with | .inl r => some r | .inr q9 => lt1 q9 fun μ10 => some (1, μ10)
def ct (c n : Nat) (μ : Mm) (d : Nat) : Option (Int32 × Mm) := bd (bd (f_X1_readNumbers_l2 KF 1 (nI c) n μ (nI d)) cMid) cFin
def rFin (q22 : (Int32 × Mm) ⊕ Mm) : Option (Int32 × Mm) := match q22 with | .inl r => some r | .inr q23 => lt1 q23 fun μ24 => bd (f_X8_skips KF μ24 139) fun μ26 => bd (f_X8_isAt KF μ26 139 59 59) fun x28 => if x28 = 0 then (some (0, μ26)) else (lt1 (sI μ26 139 8 ((μ26.1 139 8) + 1)) fun μ30 => bd (f_X8_skips KF μ30 139) fun μ32 => some (1, μ32))
def rt (n : Nat) (η : Mm) (d : Nat) : Option (Int32 × Mm) := bd (f_X8_reads_l62 KF 139 n η (nI d)) rFin
theorem cMid_l (r : Int32 × Mm) : cMid (.inl r) = some r := rfl
theorem cMid_r (μ : Mm) : cMid (.inr μ) = some (1, μ) := rfl
theorem cFin_0 (μ : Mm) : cFin (0, μ) = some (0, sI μ 1 3 (μ.1 1 2)) := rfl
theorem cFin_1 (μ : Mm) : cFin (1, μ) = bd (f_X1_readSemicolon KF μ 1) fun q18 => lt1 q18.1 fun x20 => lt1 q18.2 fun μ19 => if x20 = 0 then (lt1 (sI μ19 1 3 (μ19.1 1 2)) fun μ22 => some (0, μ22)) else (some (1, μ19)) := rfl
theorem rFin_l (r : Int32 × Mm) : rFin (.inl r) = some r := rfl
theorem rFin_r (η : Mm) : rFin (.inr η) = bd (f_X8_skips KF η 139) fun μ26 => bd (f_X8_isAt KF μ26 139 59 59) fun x28 => if x28 = 0 then (some (0, μ26)) else (lt1 (sI μ26 139 8 ((μ26.1 139 8) + 1)) fun μ30 => bd (f_X8_skips KF μ30 139) fun μ32 => some (1, μ32)) := rfl
/-- the class's step of the numbers -/
theorem ct_end {c d n : Nat} {μ : Mm} (hc : c ≤ 3) (hd : c ≤ d) (hd3 : d ≤ 3) : ct c (n + 1) μ d = cFin (1, μ) := by
  unfold ct
  simp (disch := omega) only [f_X1_readNumbers_l2, leN, if_pos hd, bd_s, cMid_r]
theorem ct_num {c d n : Nat} {μ : Mm} (hc : c ≤ 3) (hd : d < c) : ct c (n + 1) μ d = bd (f_X1_readNumber KF μ 1 (nI d)) fun q3 => if q3.1 = 0 then cFin (0, q3.2) else ct c n q3.2 (d + 1) := by
  unfold ct
  simp (disch := omega) only [f_X1_readNumbers_l2, leN, if_neg (Nat.not_le.mpr hd), L3, if_neg (show ¬ 3 ≤ d by omega), nI_1]
  cases f_X1_readNumber KF μ 1 (nI d) with
  | none => rfl
  | some q3 =>
    simp only [bd_s, l1_s]
    by_cases c : q3.1 = 0
    · rw [if_pos c, if_pos c, bd_s, cMid_l, bd_s]
    · rw [if_neg c, if_neg c]
theorem rt_end {c d n i : Nat} {η : Mm} (hi : f_X8_numbersOf (nI i) = some (nI c)) (h9 : η.1 139 9 = nI i) (hc : c ≤ 3) (hd : c ≤ d) (hd3 : d ≤ 3) : rt (n + 1) η d = rFin (.inr η) := by
  unfold rt
  simp (disch := omega) only [f_X8_reads_l62, h9, hi, bd_s, leN, if_pos hd]
theorem rt_num {c d n i : Nat} {η : Mm} (hi : f_X8_numbersOf (nI i) = some (nI c)) (h9 : η.1 139 9 = nI i) (hc : c ≤ 3) (hd : d < c) : rt (n + 1) η d = bd (f_X8_number KF η 139 (nI d)) fun q17 => if q17.1 = 0 then some (0, q17.2) else rt n q17.2 (d + 1) := by
  unfold rt
  simp (disch := omega) only [f_X8_reads_l62, h9, hi, bd_s, leN, if_neg (Nat.not_le.mpr hd), nI_1]
  cases f_X8_number KF η 139 (nI d) with
  | none => rfl
  | some q3 =>
    simp only [bd_s, l1_s]
    by_cases c : q3.1 = 0
    · rw [if_pos c, if_pos c, bd_s, rFin_l]
    · rw [if_neg c, if_neg c]
theorem c_stuck {m c n d p : Nat} {T : Nat → Int32} {μ : Mm} (h : HC m T μ) (hp : μ.1 1 2 = nI p) (hm : p ≤ m) (hc : c ≤ 3) (hd : d ≤ c) (n32 : ¬ atP T m p 32 32) (n59 : ¬ atP T m p 59 59) : ∃ μ', ct c (n + 1) μ d = some (0, μ') ∧ PF μ μ' ∧ μ'.1 1 3 = nI p ∧ μ'.2 = μ.2 := by
  by_cases e : c ≤ d
  · obtain ⟨q, s, k⟩ := c_semi h hp hm
    have e1 := s.stay n32
    subst e1
    rcases k with ⟨-, μ1, e1, f1, g1⟩ | ⟨k, -⟩
    · refine ⟨sI μ1 1 3 (nI q), ?_, f1.s1 (Or.inr rfl), sI_at, g1.2.2.2⟩
      rw [ct_end hc e (by omega), cFin_1, e1]
      simp only [bd_s, l1_s, if_true, g1.1]
    · exact absurd k n59
  · rcases c_number h hp hm (i := d) (by omega) with ⟨-, μ1, e1, f1, g1⟩ | ⟨k, -⟩
    · refine ⟨sI μ1 1 3 (nI p), ?_, f1.s1 (Or.inr rfl), sI_at, g1.2.2.2⟩
      rw [ct_num hc (by omega), e1, bd_s, if_pos rfl, cFin_0, g1.1]
    · exact absurd k n32
theorem dig_no {T : Nat → Int32} {m p : Nat} (h : atP T m p 48 57) : ¬ atP T m p 32 32 ∧ ¬ atP T m p 59 59 := by
  obtain ⟨t, t1, t2, e⟩ : bnd (T p) 48 57 := bnd_of (lo := 48) (hi := 57) (by omega) h.2.1 (by omega) h.2.2
  refine ⟨fun a => ?_, fun a => ?_⟩
  · have a := a.2.2
    rw [e, show (32 : Int32) = nI 32 from rfl, ltN (by omega) (by omega)] at a
    omega
  · have a := a.2.1
    rw [e, show (59 : Int32) = nI 59 from rfl, ltN (by omega) (by omega)] at a
    omega
theorem b_tail {m c i : Nat} {T : Nat → Int32} (hc : c ≤ 3) (hi : f_X8_numbersOf (nI i) = some (nI c)) : ∀ j d, j + d = c → ∀ n n' μ η p, j + 1 < n → j + 1 < n' → HC m T μ → HM m T η → μ.1 1 2 = nI p → η.1 139 8 = nI p → p ≤ m → η.1 139 9 = nI i → (∀ x, x < d → μ.1 3 x = η.1 144 x) →
    ∃ x μ' η', ct c n μ d = some (x, μ') ∧ rt n' η d = some (x, η') ∧ PF μ μ' ∧ QF η η' ∧ μ'.2 = μ.2 ∧ η'.1 139 9 = nI i ∧
      ((x = 0 ∧ ∃ r, r ≤ m ∧ μ'.1 1 3 = nI r ∧ η'.1 139 8 = nI r) ∨ (x = 1 ∧ μ'.1 1 3 = μ.1 1 3 ∧ ∃ r q, p < r ∧ μ'.1 1 2 = nI r ∧ η'.1 139 8 = nI q ∧ SE T m 32 32 r q ∧ ∀ x, x < c → μ'.1 3 x = η'.1 144 x)) := by
  intro j
  induction j with
  | zero =>
    intro d hd n n' μ η p hn hn' h h' hp hq hm h9 hx
    obtain ⟨n, rfl⟩ : ∃ k, n = k + 1 := ⟨n - 1, by omega⟩
    obtain ⟨n', rfl⟩ : ∃ k, n' = k + 1 := ⟨n' - 1, by omega⟩
    obtain ⟨q, s, k⟩ := c_semi h hp hm
    obtain ⟨q', η1, e1, f1, g1, s'⟩ := m_skips h' hq hm
    have eq := s.one s'
    subst eq
    have h1 := h'.qf f1
    obtain ⟨a1, a0⟩ := m_isAt h1 g1.1 s.1.2 59 59
    rw [ct_end hc (by omega) (by omega), rt_end hi h9 hc (by omega) (by omega), cFin_1, rFin_r, e1, bd_s]
    rcases k with ⟨k, μ1, e2, f2, g2⟩ | ⟨k, μ1, e2, f2, g2⟩
    · refine ⟨0, sI μ1 1 3 (nI q), η1, ?_, ?_, f2.s1 (Or.inr rfl), f1, g2.2.2.2, g1.2.1.trans h9, Or.inl ⟨rfl, q, s.1.2, sI_at, g1.1⟩⟩
      · rw [e2]
        simp only [bd_s, l1_s, if_true, g2.1]
      · rw [a0 k, bd_s, i00]
    · have lt := k.1
      have h2 : HM m T (sI η1 139 8 (nI (q + 1))) := h1.qf (QF.rf.s8 (Or.inl rfl))
      obtain ⟨q2, η2, e3, f3, g3, s3⟩ := m_skips h2 (p := q + 1) sI_at (by omega)
      refine ⟨1, μ1, η2, ?_, ?_, f2, (f1.s8 (Or.inl rfl)).trans f3, g2.2.2.2, g3.2.1.trans ((sI_of (by omega)).trans (g1.2.1.trans h9)), Or.inr ⟨rfl, g2.2.1, q + 1, q2, by have := s.1; omega, g2.1, g3.1, s3, fun x hxc => ?_⟩⟩
      · rw [e2]
        simp only [bd_s, l1_s, i10]
      · rw [a1 k, bd_s, i10, l1_s, g1.1, nI_1, e3, bd_s]
      · rw [g2.2.2.1, g3.2.2, sI_rw (by omega), g1.2.2]
        exact hx x (by omega)
  | succ j ih =>
    intro d hd n n' μ η p hn hn' h h' hp hq hm h9 hx
    obtain ⟨n, rfl⟩ : ∃ k, n = k + 1 := ⟨n - 1, by omega⟩
    obtain ⟨n', rfl⟩ : ∃ k, n' = k + 1 := ⟨n' - 1, by omega⟩
    rw [ct_num hc (by omega), rt_num hi h9 hc (by omega)]
    rcases c_number h hp hm (i := d) (by omega) with ⟨k, μ1, e1, f1, g1⟩ | ⟨k, q, t, μ1, e1, f1, g1, s1, d1, v1, o1⟩
    · rcases m_number h' hq hm (i := d) (by omega) with ⟨-, e2⟩ | ⟨k2, -⟩
      · refine ⟨0, sI μ1 1 3 (nI p), η, ?_, ?_, f1.s1 (Or.inr rfl), QF.rf, g1.2.2.2, h9, Or.inl ⟨rfl, p, hm, sI_at, hq⟩⟩
        · rw [e1, bd_s, if_pos rfl, cFin_0, g1.1]
        · rw [e2, bd_s, if_pos rfl]
      · exact absurd k2 k
    · rcases m_number h' hq hm (i := d) (by omega) with ⟨k2, -⟩ | ⟨k2, q', t', x, η1, e2, f2, g2, s2, d2, v2, o2, cx⟩
      · exact absurd k k2
      · have eq := s1.one s2
        subst eq
        have et := d1.one d2
        subst et
        have h1 := h.pf f1
        have h2 := h'.qf f2
        have hqm := d1.1.2
        have hpq := s1.1.1
        rw [e1, e2, bd_s, bd_s]
        by_cases t0 : t = 0
        · subst t0
          have x0 : x = 0 := by
            rcases cx with ⟨c, -⟩ | ⟨-, c, -⟩
            · exact c
            · exact absurd rfl c
          subst x0
          refine ⟨0, sI μ1 1 3 (nI (q + 0)), η1, ?_, ?_, f1.s1 (Or.inr rfl), f2, g1.2.2, g2.2.trans h9, Or.inl ⟨rfl, q + 0, hqm, sI_at, g2.1⟩⟩
          · rw [if_pos (by rfl), cFin_0, g1.1]
          · rw [if_pos rfl]
        · rcases cx with ⟨rfl, c⟩ | ⟨rfl, -, c⟩
          · have c : atP T m (q + t) 48 57 := by
              rcases c with c | c
              · exact absurd c t0
              · exact c
            obtain ⟨n, rfl⟩ : ∃ k, n = k + 1 := ⟨n - 1, by omega⟩
            obtain ⟨c32, c59⟩ := dig_no c
            obtain ⟨μ2, e3, f3, g3, k3⟩ := c_stuck (n := n) (d := d + 1) h1 g1.1 hqm hc (by omega) c32 c59
            refine ⟨0, μ2, η1, ?_, ?_, f1.trans f3, f2, k3.trans g1.2.2, g2.2.trans h9, Or.inl ⟨rfl, q + t, hqm, g3, g2.1⟩⟩
            · rw [if_neg (by rw [if_neg t0]; show ¬ (1 : Int32) = 0; decide)]
              exact e3
            · rw [if_pos rfl]
          · obtain ⟨y, μ2, η2, y1, y2, y3, y4, y5, y6, y7⟩ := ih (d + 1) (by omega) n n' μ1 η1 (q + t) (by omega) (by omega) h1 h2 g1.1 g2.1 hqm (g2.2.trans h9) (fun x hxd => by
              by_cases e : x = d
              · subst e
                rw [v1, v2]
              · rw [o1 x e, o2 x e]
                exact hx x (by omega))
            refine ⟨y, μ2, η2, ?_, ?_, f1.trans y3, f2.trans y4, y5.trans g1.2.2, y6, ?_⟩
            · rw [if_neg (by rw [if_neg t0]; show ¬ (1 : Int32) = 0; decide)]
              exact y1
            · rw [if_neg (show ¬ (1 : Int32) = 0 by decide)]
              exact y2
            · rcases y7 with z | ⟨z1, z2, r, q2, z3, z4⟩
              · exact Or.inl z
              · exact Or.inr ⟨z1, z2.trans g1.2.1, r, q2, by omega, z4⟩
end PureP5
