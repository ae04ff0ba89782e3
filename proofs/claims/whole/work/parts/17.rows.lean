/-! PURE: cooling, and a label's rows one after the other -/
section PureE
theorem coolN {m g : Nat} (hm : m ≤ 90) (hg : g < 1000) : (if nI m ≤ nI g then nI 0 else nI m - nI g) = nI (m - g) ∧ (if nI 0 ≤ nI m - nI g then nI m - nI g else nI 0) = nI (m - g) := by
  by_cases q : m ≤ g
  · rw [if_pos (nI_le q (by omega)), show m - g = 0 by omega]
    refine ⟨rfl, ?_⟩
    by_cases e : m = g
    · subst e
      rw [pk_sub (Nat.le_refl m), show m - m = 0 by omega, ite_self]
    · rw [if_neg]
      rw [Int32.le_iff_toInt_le, pk_sub_toInt (by omega) (by omega), nI_toInt (by omega)]
      omega
  · rw [if_neg (nI_ge (by omega) (by omega)), pk_sub (by omega)]
    exact ⟨rfl, if_pos (nI_le (by omega) (by omega))⟩
theorem c_lose {hb N g : Nat} {μ : Mm} (hR : RF μ) (hh : HB hb) (h0 : μ.1 hb 0 = nI N) (hN : N ≤ 24) (hg : g < 1000) (hx : ∀ x, x < N → bnd (μ.1 (hb + 1) x) 0 90) :
    ∃ μ', f_X3_lose KF μ hb (nI g) = some μ' ∧ FrI (fun a => a = hb + 1) μ μ' ∧ ∀ x, x < N → ∀ m, m ≤ 90 → μ.1 (hb + 1) x = nI m → μ'.1 (hb + 1) x = nI (m - g) := by
  have hk := hh.k.1
  obtain ⟨v, e, q⟩ := lp0 (fun n d ν => f_X3_lose_l2 KF hb (nI g) n ν (nI d)) N (by unfold FU; omega)
    (fun d ν => FrI (fun a => a = hb + 1) μ ν ∧ (∀ x, x < d → ∀ m, m ≤ 90 → μ.1 (hb + 1) x = nI m → ν.1 (hb + 1) x = nI (m - g)) ∧ ∀ x, d ≤ x → ν.1 (hb + 1) x = μ.1 (hb + 1) x)
    (fun ν => FrI (fun a => a = hb + 1) μ ν ∧ ∀ x, x < N → ∀ m, m ≤ 90 → μ.1 (hb + 1) x = nI m → ν.1 (hb + 1) x = nI (m - g))
    (by
      rintro n d ν hd ⟨p1, p2, p3⟩
      have hRν := hR.fr p1
      obtain ⟨m, -, hm, em⟩ := hx d hd
      have e0 : ν.1 hb 0 = nI N := by rw [p1.2 hb (by intro h; have h : hb = hb + 1 := h; omega)]; exact h0
      have ed : ν.1 (hb + 1) d = nI m := by rw [p3 d (Nat.le_refl d)]; exact em
      refine Or.inr ⟨sI ν (hb + 1) d (nI (m - g)), ?_, p1.sI rfl, ?_, ?_⟩
      · simp (disch := omega) only [f_X3_lose_l2, e0, leN, if_neg (Nat.not_le.mpr hd), bd_s, l1_s, r_h2 hRν hh, hk, gd_n, ix_n, ed]
        obtain ⟨c1, -⟩ := coolN hm hg
        by_cases t : m ≤ g
        · rw [if_pos (nI_le t (by omega))] at c1
          rw [if_pos t, ← c1, nI_succ]
          rfl
        · rw [if_neg (nI_ge (by omega) (by omega))] at c1
          rw [if_neg t, c1, nI_succ]
      · intro x hx' m' hm' e'
        by_cases e1 : x = d
        · subst e1
          rw [sI_at]
          rw [em, eqN (by omega) (by omega)] at e'
          rw [e']
        · rw [sI_of e1]
          exact p2 x (by omega) m' hm' e'
      · intro x hx'
        rw [sI_of (by omega)]
        exact p3 x (by omega))
    (by
      rintro n ν ⟨p1, p2, p3⟩
      have e0 : ν.1 hb 0 = nI N := by rw [p1.2 hb (by intro h; have h : hb = hb + 1 := h; omega)]; exact h0
      refine ⟨ν, ?_, p1, p2⟩
      simp (disch := omega) only [f_X3_lose_l2, e0, leN, if_pos (Nat.le_refl N)]) μ ⟨FrI.rfl, fun x hx' => absurd hx' (by omega), fun _ _ => rfl⟩
  refine ⟨v, ?_, q⟩
  unfold f_X3_lose
  rw [show f_X3_lose_l2 KF hb (nI g) FU μ 0 = some v from e]
  rfl
theorem m_cools {k D g : Nat} {η : Mm} (hk : k = 140 ∨ k = 141) (h0 : η.1 k 0 = nI D) (hD : D ≤ 24) (h1 : η.1 k 1 = nI g) (hg : g < 1000) :
    ∃ η', f_X8_cools KF η k = some η' ∧ FrI (fun a => a = k) η η' ∧ (∀ j, j ≠ 13 → (∀ x, x < D → j ≠ 14 + 3 * x) → η'.1 k j = η.1 k j) ∧ η'.1 k 13 = η.1 k 13 + 1 ∧ ∀ x, x < D → ∀ m, m ≤ 90 → η.1 k (14 + 3 * x) = nI m → η'.1 k (14 + 3 * x) = nI (m - g) := by
  have hkk := K_k hk
  obtain ⟨v, e, q1, q2, q3⟩ := lp0 (fun n d ν => f_X8_cools_l2 KF k n ν (nI d)) D (by unfold FU; omega)
    (fun d ν => FrI (fun a => a = k) η ν ∧ (∀ j, (∀ x, x < d → j ≠ 14 + 3 * x) → ν.1 k j = η.1 k j) ∧ ∀ x, x < d → ∀ m, m ≤ 90 → η.1 k (14 + 3 * x) = nI m → ν.1 k (14 + 3 * x) = nI (m - g))
    (fun ν => FrI (fun a => a = k) η ν ∧ (∀ j, (∀ x, x < D → j ≠ 14 + 3 * x) → ν.1 k j = η.1 k j) ∧ ∀ x, x < D → ∀ m, m ≤ 90 → η.1 k (14 + 3 * x) = nI m → ν.1 k (14 + 3 * x) = nI (m - g))
    (by
      rintro n d ν hd ⟨p1, p2, p3⟩
      have e0 : ν.1 k 0 = nI D := by rw [p2 0 (fun x _ => by omega)]; exact h0
      have e1 : ν.1 k 1 = nI g := by rw [p2 1 (fun x _ => by omega)]; exact h1
      have ed : ν.1 k (14 + 3 * d) = η.1 k (14 + 3 * d) := p2 _ (fun x hx => by omega)
      have hdo := m_dotOf (μ := ν) (k := k) (d := d) (j := 0) hkk (by omega) (by omega)
      refine Or.inr ⟨sI ν k (14 + 3 * d) (if nI 0 ≤ η.1 k (14 + 3 * d) - nI g then η.1 k (14 + 3 * d) - nI g else nI 0), ?_, p1.sI rfl, ?_, ?_⟩
      · simp (disch := omega) only [f_X8_cools_l2, L0, L1, L3, L14, e0, leN, if_neg (Nat.not_le.mpr hd), bd_s, l1_s, hkk, gd_n, ix_n, hdo, e1, nI_add, pk_mul, Nat.add_zero, ed]
      · intro j hj
        rw [sI_of (hj d (by omega))]
        exact p2 j (fun x hx => hj x (by omega))
      · intro x hx m hm e'
        by_cases e1 : x = d
        · subst e1
          rw [sI_at, e']
          exact (coolN hm hg).2
        · rw [sI_of (by omega)]
          exact p3 x (by omega) m hm e')
    (by
      rintro n ν ⟨p1, p2, p3⟩
      have e0 : ν.1 k 0 = nI D := by rw [p2 0 (fun x _ => by omega)]; exact h0
      refine ⟨ν, ?_, p1, p2, p3⟩
      simp (disch := omega) only [f_X8_cools_l2, L0, e0, hkk, gd_n, ix_n, leN, if_pos (Nat.le_refl D)]) η ⟨FrI.rfl, fun _ _ => rfl, fun x hx => absurd hx (by omega)⟩
  have e' : f_X8_cools_l2 KF k FU η (nI 0) = some v := e
  refine ⟨sI v k 13 (v.1 k 13 + 1), ?_, q1.sI rfl, ?_, ?_, ?_⟩
  · unfold f_X8_cools
    simp (disch := omega) only [L0, L1, L13, e', bd_s, l1_s, hkk, gd_n, ix_n]
  · intro j hj hj'
    rw [sI_of hj]
    exact q2 j hj'
  · rw [sI_at, q2 13 (fun x _ => by omega)]
  · intro x hx m hm e2
    rw [sI_of (by omega)]
    exact q3 x hx m hm e2
theorem b_cool {l k w bk D hb s N g : Nat} {S R c0 : Nat → Int32} {c1 : Int32} {μ η : Mm} (hN : PN l k w bk D S) (hh : HB hb) (h : PC l k w bk D S R μ η) (hp : PR hb k s N c0 c1 μ η) (hs : N + s ≤ D) (hg : S 1 = nI g) (hg' : g ≤ 30) :
    ∃ μ' η', f_X3_lose KF μ hb (nI g) = some μ' ∧ f_X8_cools KF η k = some η' ∧ PR hb k s N c0 c1 μ' η' ∧ FC hb μ μ' ∧ FM k η η' ∧ η'.1 k 13 = η.1 k 13 + 1 := by
  have hD : D ≤ 24 := hN.2.2.2.2.1
  obtain ⟨μ', e1, f1, g1⟩ := c_lose (μ := μ) (g := g) h.1 hh hp.1 (by omega) (by omega) (fun x hx => by rw [(hp.2.1 x hx).1.1]; exact (hp.2.1 x hx).2.1)
  obtain ⟨η', e2, f2, k2, l2, g2⟩ := m_cools (η := η) (g := g) hN.2.1 h.2.2.2.2.2.1 hD (by rw [h.2.2.2.2.1 1 (by omega) (by omega)]; exact hg) (by omega)
  have hn : ∀ a, a ≠ hb + 1 → μ'.1 a = μ.1 a := fun a ha => f1.2 a ha
  refine ⟨μ', η', e1, e2, ⟨by rw [hn hb (by omega)]; exact hp.1, fun x hx => ?_, ?_⟩, ⟨f1.mono (fun a ha => by have ha : a = hb + 1 := ha; show hb ≤ a ∧ a ≤ hb + 3; omega), by rw [hn hb (by omega)]⟩, ⟨f2, fun j hj => k2 j (by omega) (fun x hx => by omega)⟩, l2⟩
  · obtain ⟨⟨p1, p2, p3⟩, ⟨m, -, hm, em⟩, p5⟩ := hp.2.1 x hx
    rw [hn (hb + 2) (by omega), hn (hb + 3) (by omega), k2 (14 + 3 * (x + s) + 1) (by omega) (fun y _ => by omega), k2 (14 + 3 * (x + s) + 2) (by omega) (fun y _ => by omega),
      g1 x hx m hm (p1.trans em), g2 (x + s) (by omega) m hm em]
    exact ⟨⟨rfl, p2, p3⟩, ⟨m - g, by omega, by omega, rfl⟩, p5⟩
  · rw [hn hb (by omega), k2 10 (by omega) (fun y _ => by omega)]
    exact hp.2.2
/-- one row -/
theorem b_row {l k w bk D hb s N q r : Nat} {S R c0 : Nat → Int32} {c1 : Int32} {μ η : Mm} (hN : PN l k w bk D S) (hh : HB hb) (h : PC l k w bk D S R μ η) (hp : PR hb k s N c0 c1 μ η) (hs : N + s ≤ D) (hq : q + w ≤ N) (hr : r < 6) {v : Int32} {m0 : Nat} (hv : v = nI m0) :
    ∃ a b, f_X3_printRows_l16 KF hb (17 + 2 * l) (nI q) 14 (nI r) FU μ v 0 = some a ∧ f_X8_plays_l16 KF 139 k (nI l) (nI (q + s)) (nI r) FU η v 0 = some b ∧
      a.1 = b.1 ∧ PR hb k s N c0 c1 a.2 b.2 ∧ FC hb μ a.2 ∧ FM k η b.2 ∧ b.2.1 k 13 = η.1 k 13 ∧ ∃ m, a.1 = nI m ∧ m ≤ m0 + w := by
  have hD : D ≤ 24 := hN.2.2.2.2.1
  have hl := hN.1
  have hwb := hN.2.2.1
  have hbb := hN.2.2.2.1
  obtain ⟨a, b, e1, e2, z⟩ := lpp (fun n c (t : Mm × Int32) => f_X3_printRows_l16 KF hb (17 + 2 * l) (nI q) 14 (nI r) n t.1 t.2 (nI c)) (fun n c (t : Mm × Int32) => f_X8_plays_l16 KF 139 k (nI l) (nI (q + s)) (nI r) n t.1 t.2 (nI c)) w
    (fun c t u => t.2 = u.2 ∧ PR hb k s N c0 c1 t.1 u.1 ∧ FC hb μ t.1 ∧ FM k η u.1 ∧ u.1.1 k 13 = η.1 k 13 ∧ ∃ m, t.2 = nI m ∧ m ≤ m0 + c)
    (fun a b => a.1 = b.1 ∧ PR hb k s N c0 c1 a.2 b.2 ∧ FC hb μ a.2 ∧ FM k η b.2 ∧ b.2.1 k 13 = η.1 k 13 ∧ ∃ m, a.1 = nI m ∧ m ≤ m0 + w)
    (by
      rintro n c ⟨μ', v'⟩ ⟨η', v''⟩ hc ⟨p0, p1, p2, p3, p4, m, em, hm⟩
      have p0 : v' = v'' := p0
      subst p0
      have em : v' = nI m := em
      refine Or.inr ?_
      have h' : PC l k w bk D S R μ' η' := h.fr hN hh p2 p3
      have p1 : PR hb k s N c0 c1 μ' η' := p1
      have p2 : FC hb μ μ' := p2
      have p3 : FM k η η' := p3
      have p4 : η'.1 k 13 = η.1 k 13 := p4
      obtain ⟨fv, ef, ef'⟩ := b_fade (x := q + c) hN hh h' p1 (by omega) (by omega)
      obtain ⟨μb, ηb, eb, eb', pb, fb, mb, lb⟩ := b_burn (x := q + c) hN hh h' p1 (by omega) (by omega)
      obtain ⟨h1, h2, h3, ⟨h4, h4', h4''⟩, h5, h6, h7, h7', h7''⟩ := h'
      have hm0 := m_labelOf h2 (l := l) (j := 0) (by omega) (by omega)
      have hm1 := m_labelOf h2 (l := l) (j := 1) (by omega) (by omega)
      have hmr := m_labelOf h2 (l := l) (j := 2 + r) (by omega) (by omega)
      simp only [Nat.add_zero, h7] at hm0
      simp only [h7'] at hm1
      simp only [h7'' r hr] at hmr
      have hk1 := hh.k.1
      have hkk := K_k hN.2.1
      have hd := m_dotOf (μ := η') (k := k) (d := q + c + s) (j := 0) hkk (by omega) (by omega)
      simp only [Nat.add_zero] at hd
      have q1 : μ'.1 (hb + 1) (q + c) = η'.1 k (14 + 3 * (q + c + s)) := (p1.2.1 (q + c) (by omega)).1.1
      have q2 : μ'.1 14 4 = S 5 := h3 4 (by omega)
      have q2' : η'.1 k 5 = S 5 := h5 5 (by omega) (by omega)
      have q3 : μ'.1 14 1 = S 2 := h3 1 (by omega)
      have q3' : η'.1 k 2 = S 2 := h5 2 (by omega) (by omega)
      simp (disch := omega) only [f_X3_printRows_l16, f_X8_plays_l16, h4, leN, if_neg (Nat.not_le.mpr hc), nI_add, bd_s, l1_s, r_row h1 hl, K_row l hl, gd_n, ix_n, h4'' r hr, h4', L2, hmr, show (10 : Int32) = nI 10 by decide +kernel, pk_mul, show q + s + c = q + c + s by omega]
      by_cases t : (R r >>> (nI c &&& 31)) &&& 1 = 1
      · rw [if_pos t, if_neg (show ¬ (1 : Int32) = 0 by decide), if_pos t]
        have hm0' : f_X8_labelOf KF η' 139 (nI l) 0 = some (nI w) := hm0
        have hm1' : f_X8_labelOf KF η' 139 (nI l) 1 = some (nI bk) := hm1
        simp (disch := omega) only [hm0', hm1', bd_s, l1_s, leN, if_neg (Nat.not_le.mpr hc), ef, ef', K14, hkk, gd_n, ix_n, L4, L5, q2, q2', eb, eb']
        by_cases t2 : fv ≤ S 5
        · rw [if_pos t2, if_pos t2]
          refine ⟨(μb, v'), (ηb, v'), ?_, ?_, rfl, pb, p2.trans fb, p3.trans mb, lb.trans p4, m, em, by omega⟩
          · rw [nI_succ]
          · rw [nI_succ, Int32.add_zero]
        · rw [if_neg t2, if_neg t2]
          refine ⟨(μb, v' + 1), (ηb, v' + 1), ?_, ?_, rfl, pb, p2.trans fb, p3.trans mb, lb.trans p4, m + 1, by rw [em, nI_1], by omega⟩
          · rw [nI_succ]
          · rw [nI_succ]
      · rw [if_neg t, if_pos rfl, if_neg t]
        have hm0' : f_X8_labelOf KF η' 139 (nI l) 0 = some (nI w) := hm0
        have hd' : f_X8_dotOf KF η' k (nI (q + c + s)) 0 = some (η'.1 k (14 + 3 * (q + c + s))) := hd
        simp (disch := omega) only [hm0', hd', bd_s, l1_s, leN, if_neg (Nat.not_le.mpr hc), r_h2 h1 hh, hk1, K14, hkk, gd_n, ix_n, L1, q1, q3, q3']
        by_cases t2 : η'.1 k (14 + 3 * (q + c + s)) ≤ S 2
        · rw [if_pos t2, if_pos t2]
          refine ⟨(μ', v'), (η', v'), ?_, ?_, rfl, p1, p2, p3, p4, m, em, by omega⟩
          · rw [nI_add]
          · rw [nI_add, Int32.add_zero]
        · rw [if_neg t2, if_neg t2]
          refine ⟨(μ', v' + nI 1), (η', v' + nI 1), ?_, ?_, rfl, p1, p2, p3, p4, m + 1, by rw [em, nI_add], by omega⟩
          · rw [nI_add]
          · rw [nI_add])
    (by
      rintro n ⟨μ', v'⟩ ⟨η', v''⟩ ⟨p0, p1, p2, p3, p4, p5⟩
      have h' : PC l k w bk D S R μ' η' := h.fr hN hh p2 p3
      have p1 : PR hb k s N c0 c1 μ' η' := p1
      have p2 : FC hb μ μ' := p2
      have p3 : FM k η η' := p3
      have p4 : η'.1 k 13 = η.1 k 13 := p4
      obtain ⟨h1, h2, h3, ⟨h4, h4', h4''⟩, h5, h6, h7, h7', h7''⟩ := h'
      have hm0 := m_labelOf h2 (l := l) (j := 0) (by omega) (by omega)
      simp only [Nat.add_zero, h7] at hm0
      have hm0' : f_X8_labelOf KF η' 139 (nI l) 0 = some (nI w) := hm0
      refine ⟨(v', μ'), (v'', η'), ?_, ?_, p0, p1, p2, p3, p4, p5⟩
      · simp (disch := omega) only [f_X3_printRows_l16, h4, leN, if_pos (Nat.le_refl w)]
      · simp (disch := omega) only [f_X8_plays_l16, hm0', bd_s, leN, if_pos (Nat.le_refl w)]) w 0 (μ, v) (η, v) FU (by omega) (by unfold FU; omega) ⟨rfl, hp, FC.refl, FM.refl, rfl, m0, hv, by omega⟩
  exact ⟨a, b, e1, e2, z⟩
/-- a whole label -/
theorem b_play {l k w bk D hb s N q : Nat} {S R c0 : Nat → Int32} {c1 : Int32} {μ η : Mm} (hN : PN l k w bk D S) (hh : HB hb) (h : PC l k w bk D S R μ η) (hp : PR hb k s N c0 c1 μ η) (hs : N + s ≤ D) (hq : q + w ≤ N) :
    ∃ v μ' η', f_X3_printRows KF μ hb (17 + 2 * l) (nI q) 14 = some (v, μ') ∧ f_X8_plays KF η 139 k (nI l) (nI (q + s)) = some (v, η') ∧ PR hb k s N c0 c1 μ' η' ∧ FC hb μ μ' ∧ FM k η η' ∧ η'.1 k 13 = η.1 k 13 + nI 6 ∧ bnd v 0 72 := by
  have hD : D ≤ 24 := hN.2.2.2.2.1
  obtain ⟨g, -, hg, eg⟩ := hN.2.2.2.2.2.1
  obtain ⟨a, b, e1, e2, z⟩ := lpp (fun n r (t : Mm × Int32) => f_X3_printRows_l6 KF hb (17 + 2 * l) (nI q) 14 n t.1 t.2 (nI r)) (fun n r (t : Mm × Int32) => f_X8_plays_l6 KF 139 k (nI l) (nI (q + s)) n t.1 t.2 (nI r)) 6
    (fun r t u => t.2 = u.2 ∧ PR hb k s N c0 c1 t.1 u.1 ∧ FC hb μ t.1 ∧ FM k η u.1 ∧ u.1.1 k 13 = η.1 k 13 + nI r ∧ ∃ m, t.2 = nI m ∧ m ≤ 12 * r)
    (fun a b => a.1 = b.1 ∧ PR hb k s N c0 c1 a.2 b.2 ∧ FC hb μ a.2 ∧ FM k η b.2 ∧ b.2.1 k 13 = η.1 k 13 + nI 6 ∧ ∃ m, a.1 = nI m ∧ m ≤ 12 * 6)
    (by
      rintro n r ⟨μ', v'⟩ ⟨η', v''⟩ hr ⟨p0, p1, p2, p3, p4, m, em, hm⟩
      have p0 : v' = v'' := p0
      subst p0
      have em : v' = nI m := em
      refine Or.inr ?_
      have h' : PC l k w bk D S R μ' η' := h.fr hN hh p2 p3
      have p1 : PR hb k s N c0 c1 μ' η' := p1
      have p2 : FC hb μ μ' := p2
      have p3 : FM k η η' := p3
      have p4 : η'.1 k 13 = η.1 k 13 + nI r := p4
      obtain ⟨⟨v1, μ1⟩, ⟨v2, η1⟩, e1, e2, z0, z1, z2, z3, z4, m', em', hm'⟩ := b_row hN hh h' p1 hs hq hr em
      have z0 : v1 = v2 := z0
      subst z0
      have z1 : PR hb k s N c0 c1 μ1 η1 := z1
      have z2 : FC hb μ' μ1 := z2
      have z3 : FM k η' η1 := z3
      have z4 : η1.1 k 13 = η'.1 k 13 := z4
      have h1 : PC l k w bk D S R μ1 η1 := h'.fr hN hh z2 z3
      obtain ⟨μ2, η2, y1, y2, y3, y4, y5, y6⟩ := b_cool hN hh h1 z1 hs eg hg
      have y1' : f_X3_lose KF μ1 hb (μ1.1 14 0) = some μ2 := by rw [h1.2.2.1 0 (by omega)]; rw [eg]; exact y1
      refine ⟨(μ2, v1), (η2, v1), ?_, ?_, rfl, y3, (p2.trans z2).trans y4, (p3.trans z3).trans y5, ?_, m', em', by have := hN.2.2.1.2; omega⟩
      · have e1' : f_X3_printRows_l16 KF hb (17 + 2 * l) (nI q) 14 (nI r) FU μ' v' (nI 0) = some (v1, μ1) := e1
        simp (disch := omega) only [f_X3_printRows_l6, L6, L0, leN, if_neg (Nat.not_le.mpr hr), e1', bd_s, l1_s, K14, gd_n, ix_n, y1', nI_succ r]
      · have e2' : f_X8_plays_l16 KF 139 k (nI l) (nI (q + s)) (nI r) FU η' v' (nI 0) = some (v1, η1) := e2
        simp (disch := omega) only [f_X8_plays_l6, L6, L0, leN, if_neg (Nat.not_le.mpr hr), e2', bd_s, l1_s, y2, nI_succ r]
      · show η2.1 k 13 = η.1 k 13 + nI (r + 1)
        rw [y6, z4, p4, nI_succ, Int32.add_assoc])
    (by
      rintro n ⟨μ', v'⟩ ⟨η', v''⟩ ⟨p0, p1, p2, p3, p4, p5⟩
      refine ⟨(v', μ'), (v'', η'), ?_, ?_, p0, p1, p2, p3, p4, p5⟩
      · simp (disch := omega) only [f_X3_printRows_l6, L6, leN, if_pos (Nat.le_refl 6)]
      · simp (disch := omega) only [f_X8_plays_l6, L6, leN, if_pos (Nat.le_refl 6)]) 6 0 (μ, 0) (η, 0) FU (by omega) (by unfold FU; omega) ⟨rfl, hp, FC.refl, FM.refl, by rw [show nI 0 = 0 from rfl, Int32.add_zero], 0, rfl, by omega⟩
  obtain ⟨a1, μ'⟩ := a
  obtain ⟨b1, η'⟩ := b
  obtain ⟨z0, z1, z2, z3, z4, m, em, hm⟩ := z
  have z0 : a1 = b1 := z0
  subst z0
  refine ⟨a1, μ', η', ?_, ?_, z1, z2, z3, z4, m, by omega, by omega, em⟩
  · unfold f_X3_printRows
    rw [show f_X3_printRows_l6 KF hb (17 + 2 * l) (nI q) 14 FU μ 0 0 = some (a1, μ') from e1]
    rfl
  · unfold f_X8_plays
    rw [show f_X8_plays_l6 KF 139 k (nI l) (nI (q + s)) FU η 0 0 = some (a1, η') from e2]
    rfl
end PureE
