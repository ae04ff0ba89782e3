/-! PURE: printing. The class's head and the reference's row burn alike -/
section PureD
theorem lpp {σ τ ρ ρ' : Type} (F : Nat → Nat → σ → Option ρ) (G : Nat → Nat → τ → Option ρ') (D : Nat) (P : Nat → σ → τ → Prop) (Q : ρ → ρ' → Prop)
    (step : ∀ n d s t, d < D → P d s t → (∃ r r', F (n + 1) d s = some r ∧ G (n + 1) d t = some r' ∧ Q r r') ∨ ∃ s' t', F (n + 1) d s = F n (d + 1) s' ∧ G (n + 1) d t = G n (d + 1) t' ∧ P (d + 1) s' t')
    (fin : ∀ n s t, P D s t → ∃ r r', F (n + 1) D s = some r ∧ G (n + 1) D t = some r' ∧ Q r r') : ∀ k d s t n, k + d = D → k < n → P d s t → ∃ r r', F n d s = some r ∧ G n d t = some r' ∧ Q r r' := by
  intro k
  induction k with
  | zero =>
    intro d s t n e hn hP
    obtain ⟨m, rfl⟩ : ∃ m, n = m + 1 := ⟨n - 1, by omega⟩
    have e : d = D := by omega
    subst e
    exact fin m s t hP
  | succ k ih =>
    intro d s t n e hn hP
    obtain ⟨m, rfl⟩ : ∃ m, n = m + 1 := ⟨n - 1, by omega⟩
    rcases step m d s t (by omega) hP with h | ⟨s', t', e1, e2, h1⟩
    · exact h
    · rw [e1, e2]
      exact ih (d + 1) s' t' m (by omega) (by omega) h1
/-- what changes: a head; a row's dots -/
def FC (hb : Nat) (μ μ' : Mm) : Prop := FrI (fun a => hb ≤ a ∧ a ≤ hb + 3) μ μ' ∧ μ'.1 hb 0 = μ.1 hb 0
def FM (k : Nat) (η η' : Mm) : Prop := FrI (fun a => a = k) η η' ∧ ∀ j, (j < 14 ∧ j ≠ 10 ∧ j ≠ 13 ∨ 86 ≤ j) → η'.1 k j = η.1 k j
theorem FC.refl {hb : Nat} {μ : Mm} : FC hb μ μ := ⟨FrI.rfl, rfl⟩
theorem FM.refl {k : Nat} {μ : Mm} : FM k μ μ := ⟨FrI.rfl, fun _ _ => rfl⟩
theorem FC.trans {hb : Nat} {μ μ' μ'' : Mm} (h : FC hb μ μ') (h' : FC hb μ' μ'') : FC hb μ μ'' := ⟨h.1.trans h'.1, h'.2.trans h.2⟩
theorem FM.trans {k : Nat} {μ μ' μ'' : Mm} (h : FM k μ μ') (h' : FM k μ' μ'') : FM k μ μ'' := ⟨h.1.trans h'.1, fun j hj => (h'.2 j hj).trans (h.2 j hj)⟩
/-- what printing a label wants to know; k the row that it is played on -/
def PC (l k w bk D : Nat) (S R : Nat → Int32) (μ η : Mm) : Prop := RF μ ∧ RF η ∧ (∀ j, j < 7 → μ.1 14 j = S (1 + j)) ∧ (μ.1 (17 + 2 * l) 0 = nI w ∧ μ.1 (17 + 2 * l) 1 = nI bk ∧ ∀ r, r < 6 → μ.1 (18 + 2 * l) r = R r) ∧
  (∀ j, 1 ≤ j → j ≤ 7 → η.1 k j = S j) ∧ η.1 k 0 = nI D ∧ (η.1 140 (86 + 10 * l) = nI w ∧ η.1 140 (86 + 10 * l + 1) = nI bk ∧ ∀ r, r < 6 → η.1 140 (86 + 10 * l + (2 + r)) = R r)
/-- what is known of the numbers -/
def PN (l k w bk D : Nat) (S : Nat → Int32) : Prop := l < 6 ∧ (k = 140 ∨ k = 141) ∧ (1 ≤ w ∧ w ≤ 12) ∧ (1 ≤ bk ∧ bk ≤ 9) ∧ D ≤ 24 ∧ bnd (S 1) 0 30 ∧ bnd (S 3) 0 9999 ∧ bnd (S 4) 1 100
theorem PC.fr {l k w bk D hb : Nat} {S R : Nat → Int32} {μ η μ' η' : Mm} (hN : PN l k w bk D S) (hh : HB hb) (h : PC l k w bk D S R μ η) (hc : FC hb μ μ') (hm : FM k η η') : PC l k w bk D S R μ' η' := by
  obtain ⟨h1, h2, h3, ⟨h4, h4', h4''⟩, h5, h6, h7, h7', h7''⟩ := h
  have hl := hN.1
  have hb1 : ∀ a, 14 ≤ a → μ'.1 a = μ.1 a := fun a ha => hc.1.2 a (by rcases hh with rfl | rfl <;> omega)
  have hk : ∀ j, 86 ≤ j → η'.1 140 j = η.1 140 j := by
    intro j hj
    by_cases e : k = 140
    · subst e
      exact hm.2 j (Or.inr hj)
    · rw [hm.1.2 140 (fun e' => e e'.symm)]
  refine ⟨h1.fr hc.1, h2.fr hm.1, fun j hj => by rw [hb1 14 (by omega)]; exact h3 j hj, ⟨by rw [hb1 _ (by omega)]; exact h4, by rw [hb1 _ (by omega)]; exact h4', fun r hr => by rw [hb1 _ (by omega)]; exact h4'' r hr⟩,
    fun j hj hj' => by rw [hm.2 j (by omega)]; exact h5 j hj hj', by rw [hm.2 0 (by omega)]; exact h6, by rw [hk _ (by omega)]; exact h7, by rw [hk _ (by omega)]; exact h7', fun r hr => by rw [hk _ (by omega)]; exact h7'' r hr⟩
/-- the head's dots and the row's are alike, s dots further -/
def PR (hb k s N : Nat) (c0 : Nat → Int32) (c1 : Int32) (μ η : Mm) : Prop := μ.1 hb 0 = nI N ∧ (∀ x, x < N → (μ.1 (hb + 1) x = η.1 k (14 + 3 * (x + s)) ∧ μ.1 (hb + 2) x = η.1 k (14 + 3 * (x + s) + 1) ∧ μ.1 (hb + 3) x = η.1 k (14 + 3 * (x + s) + 2) + c0 x) ∧
  bnd (η.1 k (14 + 3 * (x + s))) 0 90 ∧ bnd (η.1 k (14 + 3 * (x + s) + 1)) 0 9999) ∧ μ.1 hb 1 = η.1 k 10 + c1
theorem arc (a b c : Int32) : a + b + c = a + c + b := by rw [Int32.add_assoc, Int32.add_comm b c, ← Int32.add_assoc]
theorem K_k {k : Nat} (h : k = 140 ∨ k = 141) : KF k = (8, 182) := by rcases h with rfl | rfl <;> rfl
theorem lt1_le0 (x : Int32) : (x < nI 1) = (x ≤ nI 0) := propext (by rw [← L0, ← L1, Int32.lt_iff_toInt_lt, Int32.le_iff_toInt_le, show (1 : Int32).toInt = 1 from rfl, show (0 : Int32).toInt = 0 from rfl]; omega)
theorem b_fade {l k w bk D hb s N x : Nat} {S R c0 : Nat → Int32} {c1 : Int32} {μ η : Mm} (hN : PN l k w bk D S) (hh : HB hb) (h : PC l k w bk D S R μ η) (hp : PR hb k s N c0 c1 μ η) (hx : x < N) (hs : N + s ≤ 24) :
    ∃ v, f_X3_fadeOf KF μ hb (nI x) 14 = some v ∧ f_X8_fade KF η k (nI (x + s)) = some v := by
  obtain ⟨h1, h2, h3, -, h5, -, -⟩ := h
  obtain ⟨-, hk, -, -, -, -, -, fd, hf1, hf2, hf⟩ := hN
  obtain ⟨⟨q1, q2, q3⟩, -, -⟩ := hp.2.1 x hx
  have hd := m_dotOf (μ := η) (k := k) (d := x + s) (j := 1) (K_k hk) (by omega) (by omega)
  have e2 := h3 2 (by omega)
  have e3 := h3 3 (by omega)
  have e2' := h5 3 (by omega) (by omega)
  have e3' := h5 4 (by omega) (by omega)
  unfold f_X3_fadeOf f_X8_fade
  have hk3 := hh.k.2.1
  simp (disch := omega) only [r_h3 h1 hh, hk3, bd_s, l1_s, K14, K_k hk, gd_n, ix_n, L2, L3, L4, L0, q2, e2, e3, Nat.reduceAdd, hf, hd, e2', e3', lt1_le0, gd_t (show ¬ nI fd = nI 0 from nI_ne0 (n := fd) (by omega) (by omega)), L1, leN, if_pos hf1]
  by_cases t : η.1 k (14 + 3 * (x + s) + 1) - S 3 ≤ nI 0
  · rw [if_pos t]
    exact ⟨_, rfl, rfl⟩
  · rw [if_neg t]
    exact ⟨_, rfl, rfl⟩
theorem b_burn {l k w bk D hb s N x : Nat} {S R c0 : Nat → Int32} {c1 : Int32} {μ η : Mm} (hN : PN l k w bk D S) (hh : HB hb) (h : PC l k w bk D S R μ η) (hp : PR hb k s N c0 c1 μ η) (hx : x < N) (hs : N + s ≤ 24) :
    ∃ μ' η', f_X3_burn KF μ hb (nI x) (nI (10 * bk)) = some μ' ∧ f_X8_burns KF η k (nI (x + s)) (nI bk) = some η' ∧ PR hb k s N c0 c1 μ' η' ∧ FC hb μ μ' ∧ FM k η η' ∧ η'.1 k 13 = η.1 k 13 := by
  obtain ⟨h1, h2, h3, -, h5, -, -⟩ := h
  obtain ⟨-, hk, -, hbk, -, -, -, -⟩ := hN
  obtain ⟨⟨q1, q2, q3⟩, ⟨ht, -, ht2, eh⟩, ⟨we, -, hwe, ew⟩⟩ := hp.2.1 x hx
  have hh1 := hh.k.1
  have hh2 := hh.k.2.1
  have hh3 := hh.k.2.2
  unfold f_X3_burn f_X8_burns
  have r2 : ∀ ν, RF ν → rf KF ν hb 2 8 = some (hb + 1) := fun ν hν => r_h2 hν hh
  simp (disch := omega) only [r_h2 h1 hh, r_h3 h1 hh, r_h4 h1 hh, rf_sI, hh1, hh2, hh3, bd_s, l1_s, K_k hk, gd_n, ix_n, L0, L1, L2, L3, L9, L10, L14, nI_add, pk_mul, Nat.add_zero, q1, eh, ltN, sI_no, sI_at, sI_of, q2, ew, q3]
  by_cases t : ht < 10 * bk
  · rw [if_pos t]
    have tp : nI (10 * bk) - nI ht = nI (10 * bk - ht) := pk_sub (by omega)
    have td : nI (10 * bk - ht + 9) / nI 10 = nI ((10 * bk - ht + 9) / 10) := pk_div (by omega) (by omega) (by omega)
    simp (disch := omega) only [tp, leN, if_neg (show ¬ 10 * bk - ht ≤ 0 by omega), nI_add, td, show (9999 : Int32) = nI 9999 by decide +kernel]
    generalize hu : (10 * bk - ht + 9) / 10 = u
    have hu9 : u ≤ 9 := by omega
    by_cases t2 : we + u ≤ 9999
    · rw [if_pos t2]
      have t3 : (if 9999 ≤ we + u then nI 9999 else nI (we + u)) = nI (we + u) := by
        split
        · rw [show we + u = 9999 by omega]
        · rfl
      simp only [t3]
      refine ⟨_, _, rfl, rfl, ⟨?_, fun y hy => ?_, ?_⟩, ⟨?_, ?_⟩, ⟨?_, fun j hj => ?_⟩, ?_⟩
      · simp (disch := omega) only [sI_no, sI_of]
        exact hp.1
      · by_cases e : y = x
        · subst e
          simp (disch := omega) only [sI_no, sI_of, sI_at]
          exact ⟨⟨(by first | trivial | rfl), (by first | trivial | rfl), by first | exact arc _ _ _ | (rw [q3]; exact arc _ _ _)⟩, ⟨10 * bk, by omega, by omega, rfl⟩, ⟨we + u, by omega, by omega, rfl⟩⟩
        · simp (disch := omega) only [sI_no, sI_of]
          exact hp.2.1 y hy
      · simp (disch := omega) only [sI_no, sI_of, sI_at]
        first | exact hp.2.2 | (rw [hp.2.2]; exact arc _ _ _) | (rw [hp.2.2]; simp only [← L0, Int32.add_zero])
      · refine ⟨rfl, fun a ha => ?_⟩
        have ha : ¬ (hb ≤ a ∧ a ≤ hb + 3) := ha
        simp (disch := omega) only [sI_rw]
      · simp (disch := omega) only [sI_no, sI_of]
      · refine ⟨rfl, fun a ha => ?_⟩
        have ha : ¬ a = k := ha
        simp (disch := omega) only [sI_rw]
      · simp (disch := omega) only [sI_of]
      · simp (disch := omega) only [sI_of]
    · rw [if_neg t2]
      have t3 : (if 9999 ≤ we + u then nI 9999 else nI (we + u)) = nI 9999 := if_pos (by omega)
      simp only [t3]
      refine ⟨_, _, rfl, rfl, ⟨?_, fun y hy => ?_, ?_⟩, ⟨?_, ?_⟩, ⟨?_, fun j hj => ?_⟩, ?_⟩
      · simp (disch := omega) only [sI_no, sI_of]
        exact hp.1
      · by_cases e : y = x
        · subst e
          simp (disch := omega) only [sI_no, sI_of, sI_at]
          exact ⟨⟨(by first | trivial | rfl), (by first | trivial | rfl), by first | exact arc _ _ _ | (rw [q3]; exact arc _ _ _)⟩, ⟨10 * bk, by omega, by omega, rfl⟩, ⟨9999, by omega, by omega, rfl⟩⟩
        · simp (disch := omega) only [sI_no, sI_of]
          exact hp.2.1 y hy
      · simp (disch := omega) only [sI_no, sI_of, sI_at]
        first | exact hp.2.2 | (rw [hp.2.2]; exact arc _ _ _) | (rw [hp.2.2]; simp only [← L0, Int32.add_zero])
      · refine ⟨rfl, fun a ha => ?_⟩
        have ha : ¬ (hb ≤ a ∧ a ≤ hb + 3) := ha
        simp (disch := omega) only [sI_rw]
      · simp (disch := omega) only [sI_no, sI_of]
      · refine ⟨rfl, fun a ha => ?_⟩
        have ha : ¬ a = k := ha
        simp (disch := omega) only [sI_rw]
      · simp (disch := omega) only [sI_of]
      · simp (disch := omega) only [sI_of]
  · rw [if_neg t]
    have tn : nI (10 * bk) - nI ht ≤ nI 0 := by
      rw [Int32.le_iff_toInt_le, pk_sub_toInt (by omega) (by omega), nI_toInt (by omega)]
      omega
    have t3 : (if nI 9999 ≤ nI we then nI 9999 else nI we) = nI we := by
      by_cases q : 9999 ≤ we
      · rw [if_pos (nI_le q (by omega)), show we = 9999 by omega]
      · rw [if_neg (nI_ge (by omega) (by omega))]
    simp only [if_pos tn, show (9999 : Int32) = nI 9999 by decide +kernel, nI_add, Nat.add_zero, t3]
    refine ⟨_, _, rfl, rfl, ⟨?_, fun y hy => ?_, ?_⟩, ⟨?_, ?_⟩, ⟨?_, fun j hj => ?_⟩, ?_⟩
    · exact hp.1
    · by_cases e : y = x
      · subst e
        first | rfl | (simp (disch := omega) only [sI_no, sI_of, sI_at]; done) | (try simp (disch := omega) only [sI_no, sI_of, sI_at])
        exact ⟨⟨by first | exact q1.trans eh | trivial, by first | exact q2.trans ew | trivial, by first | (rw [q3, ← L0, Int32.add_zero]; done) | (rw [← L0, Int32.add_zero]; exact q3)⟩, ⟨ht, by omega, by omega, rfl⟩, ⟨we, by omega, by omega, rfl⟩⟩
      · first | rfl | (simp (disch := omega) only [sI_no, sI_of]; done) | (try simp (disch := omega) only [sI_no, sI_of])
        exact hp.2.1 y hy
    · first | rfl | (simp (disch := omega) only [sI_no, sI_of, sI_at]; done) | (try simp (disch := omega) only [sI_no, sI_of, sI_at])
      first | exact hp.2.2 | (rw [hp.2.2]; exact arc _ _ _) | (rw [hp.2.2]; simp only [← L0, Int32.add_zero])
    · refine ⟨rfl, fun a ha => ?_⟩
      have ha : ¬ (hb ≤ a ∧ a ≤ hb + 3) := ha
      first | rfl | (simp (disch := omega) only [sI_rw]; done) | (try simp (disch := omega) only [sI_rw])
    · first | rfl | (simp (disch := omega) only [sI_no, sI_of]; done) | (try simp (disch := omega) only [sI_no, sI_of])
    · refine ⟨rfl, fun a ha => ?_⟩
      have ha : ¬ a = k := ha
      first | rfl | (simp (disch := omega) only [sI_rw]; done) | (try simp (disch := omega) only [sI_rw])
    · first | rfl | (simp (disch := omega) only [sI_of]; done) | (try simp (disch := omega) only [sI_of])
    · first | rfl | (simp (disch := omega) only [sI_of]; done) | (try simp (disch := omega) only [sI_of])
end PureD
